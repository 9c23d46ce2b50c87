section PEB
variable {f_stacked f_treeSize f_over f_pressed f_focus f_waiting f_noteCount : Int32} {a_there a_parents a_kinds a_colours a_weights a_gaps a_layouts a_values a_effects a_targets a_visible a_enabled a_on a_wishedPlaces a_wishedSizes a_shifts a_stack a_tree a_seen a_able a_places a_sizes a_clipStarts a_clipEnds a_eventKinds a_eventXs a_eventYs a_notes a_pixels : Nat → Int32}
variable {g_many g_waiting g_acted : Int32} {b_kids b_kidCount b_left b_top b_width b_height b_order b_stack b_events : Nat → Int32}
theorem px_settleG {L : List Nat} {rk : Nat → Nat} {G : Nat → pd_V} (H : pd_BI a_there a_parents L rk) (hst : pd_ST f_stacked a_stack L) (hV : pd_VA a_wishedPlaces a_wishedSizes a_weights a_layouts a_targets a_shifts) (hG : pd_LE a_parents a_wishedPlaces a_wishedSizes a_shifts a_visible a_enabled a_layouts a_gaps a_weights L G) {post : SX → Prop}
    (h : ∀ tn tr se ab pl sz cs ce, pd_DG G a_parents L tn tr se ab pl sz cs ce →
      post (f_stacked, tn, f_over, f_pressed, f_focus, f_waiting, f_noteCount, a_there, a_parents, a_kinds, a_colours, a_weights, a_gaps, a_layouts, a_values, a_effects, a_targets, a_visible, a_enabled, a_on, a_wishedPlaces, a_wishedSizes, a_shifts, a_stack, tr, se, ab, pl, sz, cs, ce, a_eventKinds, a_eventXs, a_eventYs, a_notes, a_pixels)) : wpX_settle post (f_stacked, f_treeSize, f_over, f_pressed, f_focus, f_waiting, f_noteCount, a_there, a_parents, a_kinds, a_colours, a_weights, a_gaps, a_layouts, a_values, a_effects, a_targets, a_visible, a_enabled, a_on, a_wishedPlaces, a_wishedSizes, a_shifts, a_stack, a_tree, a_seen, a_able, a_places, a_sizes, a_clipStarts, a_clipEnds, a_eventKinds, a_eventXs, a_eventYs, a_notes, a_pixels) := by
  have hO := pd_ordW H
  have hl := pd_ordL H
  unfold wpX_settle
  refine px_order H hst (fun tr htr => ⟨3, ?_⟩)
  show wX_settle_6 post f_stacked (nI (pd_ord a_parents L).length) f_over f_pressed f_focus f_waiting f_noteCount 3 (nI 0) a_there a_parents a_kinds a_colours a_weights a_gaps a_layouts a_values a_effects a_targets a_visible a_enabled a_on a_wishedPlaces a_wishedSizes a_shifts a_stack tr a_seen a_able a_places a_sizes a_clipStarts a_clipEnds a_eventKinds a_eventXs a_eventYs a_notes a_pixels
  rw [wX_settle_6]
  refine br_f (by decide) ⟨vp_in_nI (by omega) (by omega), vp_in_nI (by omega) (by omega), nm_r (e' := upd a_places 0 (a_wishedPlaces 0)) (by rw [pd_cl (by omega)]) ⟨vp_in_nI (by omega) (by omega), vp_in_nI (by omega) (by omega), nm_r (e' := upd a_sizes 0 (a_wishedSizes 0)) (by rw [pd_cl (by omega)]) (nm_r (nI_1 0) ?_)⟩⟩
  rw [wX_settle_6]
  refine br_f (by decide) ⟨vp_in_nI (by omega) (by omega), vp_in_nI (by omega) (by omega), nm_r (e' := upd (upd a_places 0 (a_wishedPlaces 0)) 1 (a_wishedPlaces 1)) (by rw [pd_cl (by omega)]) ⟨vp_in_nI (by omega) (by omega), vp_in_nI (by omega) (by omega), nm_r (e' := upd (upd a_sizes 0 (a_wishedSizes 0)) 1 (a_wishedSizes 1)) (by rw [pd_cl (by omega)]) (nm_r (nI_1 1) ?_)⟩⟩
  rw [wX_settle_6]
  refine br_t (by decide) ⟨(pd_ord a_parents L).length + 1, ?_⟩
  refine px_set43 (G := G) H hst hl hG hV.2.2.1 (pd_ord a_parents L) [] 0 _ a_seen a_able _ _ a_clipStarts a_clipEnds htr (by omega) (by omega) hO.2 (fun w hw => (pd_ordM H w).mp hw) (fun w hw => by cases hw) (fun w hw => by cases hw) (fun a ha => ?_) (fun c p _ hp => by cases hp) (fun se ab pl sz cs ce k1 k2 k3 => ?_)
  · rw [hG.1]
    have : a = 0 ∨ a = 1 := by omega
    rcases this with rfl | rfl
    · show upd (upd a_places 0 (a_wishedPlaces 0)) 1 (a_wishedPlaces 1) 0 = a_wishedPlaces 0 ∧ upd (upd a_sizes 0 (a_wishedSizes 0)) 1 (a_wishedSizes 1) 0 = a_wishedSizes 0
      rw [pd_un (by omega), pd_us, pd_un (by omega), pd_us]; exact ⟨rfl, rfl⟩
    · show upd (upd a_places 0 (a_wishedPlaces 0)) 1 (a_wishedPlaces 1) 1 = a_wishedPlaces 1 ∧ upd (upd a_sizes 0 (a_wishedSizes 0)) 1 (a_wishedSizes 1) 1 = a_wishedSizes 1
      rw [pd_us, pd_us]; exact ⟨rfl, rfl⟩
  · refine h _ tr se ab pl sz cs ce ⟨rfl, htr, fun w hw => pd_DApc ?_ (k1 w (Or.inr ((pd_ordM H w).mpr hw)))⟩
    cases hw with
    | inl e => subst e; exact k2
    | inr e =>
      obtain ⟨p, hp, ep, _⟩ := H.2.2.2.2 w e
      exact k3 w p e (Or.inr ((pd_ordM H p).mpr hp)) ep
theorem px_drop {post : SX → Prop} {c q : Nat} (hc : c ≤ q) (hq : q ≤ 16)
    (h : post (f_stacked, f_treeSize, f_over, f_pressed, f_focus, nI (q - c), f_noteCount, a_there, a_parents, a_kinds, a_colours, a_weights, a_gaps, a_layouts, a_values, a_effects, a_targets, a_visible, a_enabled, a_on, a_wishedPlaces, a_wishedSizes, a_shifts, a_stack, a_tree, a_seen, a_able, a_places, a_sizes, a_clipStarts, a_clipEnds, pd_S a_eventKinds c q, pd_S a_eventXs c q, pd_S a_eventYs c q, a_notes, a_pixels)) : wpX_dropEvents post (f_stacked, f_treeSize, f_over, f_pressed, f_focus, nI q, f_noteCount, a_there, a_parents, a_kinds, a_colours, a_weights, a_gaps, a_layouts, a_values, a_effects, a_targets, a_visible, a_enabled, a_on, a_wishedPlaces, a_wishedSizes, a_shifts, a_stack, a_tree, a_seen, a_able, a_places, a_sizes, a_clipStarts, a_clipEnds, a_eventKinds, a_eventXs, a_eventYs, a_notes, a_pixels) (nI c) := by
  have go : ∀ (d i : Nat), i + d = q → c ≤ i → wX_dropEvents_2 post (nI c) (d + 1) (nI i) f_stacked f_treeSize f_over f_pressed f_focus (nI q) f_noteCount a_there a_parents a_kinds a_colours a_weights a_gaps a_layouts a_values a_effects a_targets a_visible a_enabled a_on a_wishedPlaces a_wishedSizes a_shifts a_stack a_tree a_seen a_able a_places a_sizes a_clipStarts a_clipEnds (pd_S a_eventKinds c i) (pd_S a_eventXs c i) (pd_S a_eventYs c i) a_notes a_pixels := by
    intro d
    induction d with
    | zero =>
      intro i hi _
      have e : i = q := hi
      subst e
      rw [wX_dropEvents_2]
      exact br_t (Int32.le_refl _) (nm_r (pd_sub hc) h)
    | succ d ih =>
      intro i hi hci
      have vi : vp_in (nI i) 16 := vp_in_nI (by omega) (by omega)
      rw [wX_dropEvents_2]
      dsimp only
      rw [pd_cl (n := i) (by omega), pd_Sg, pd_Sg, pd_Sg, pd_sub hci]
      refine br_f (nI_ge (by omega) (by omega)) ⟨vi, vi, vi, px_sev (by omega) (nm_r (nI_1 i) ?_)⟩
      rw [pd_S1 _ hci, pd_S1 _ hci, pd_S1 _ hci]
      exact ih (i + 1) (by omega) (by omega)
  have k := go (q - c) c (by omega) (Nat.le_refl _)
  rw [pd_S0, pd_S0, pd_S0] at k
  exact ⟨_, k⟩
theorem py_drop78 {post : Int32 → SY → Prop} {c q : Nat} (hc : c ≤ q) (hq : q ≤ 16)
    (h : wpY_draw (fun u => match u with | (g_many1, g_waiting1, g_noteCount1, g_over1, g_pressed1, g_focus1, g_acted1, b_there1, b_kind1, b_wishX1, b_wishY1, b_wishW1, b_wishH1, b_colour1, b_layout1, b_gap1, b_weight1, b_shiftX1, b_shiftY1, b_visible1, b_enabled1, b_on1, b_value1, b_parent1, b_effects1, b_targets1, b_kids1, b_kidCount1, b_left1, b_top1, b_width1, b_height1, b_order1, b_stack1, b_pixels1, b_events1, b_notes1) => post (nI c) (g_many1, g_waiting1, g_noteCount1, g_over1, g_pressed1, g_focus1, g_acted1, b_there1, b_kind1, b_wishX1, b_wishY1, b_wishW1, b_wishH1, b_colour1, b_layout1, b_gap1, b_weight1, b_shiftX1, b_shiftY1, b_visible1, b_enabled1, b_on1, b_value1, b_parent1, b_effects1, b_targets1, b_kids1, b_kidCount1, b_left1, b_top1, b_width1, b_height1, b_order1, b_stack1, b_pixels1, b_events1, b_notes1)) (g_many, nI (q - c), f_noteCount, f_over, f_pressed, f_focus, g_acted, a_there, a_kinds, (fun j => a_wishedPlaces (2 * j)), (fun j => a_wishedPlaces (2 * j + 1)), (fun j => a_wishedSizes (2 * j)), (fun j => a_wishedSizes (2 * j + 1)), a_colours, a_layouts, a_gaps, a_weights, (fun j => a_shifts (2 * j)), (fun j => a_shifts (2 * j + 1)), a_visible, a_enabled, a_on, a_values, a_parents, a_effects, a_targets, b_kids, b_kidCount, b_left, b_top, b_width, b_height, b_order, b_stack, a_pixels, pd_S b_events (3 * c) (3 * q), a_notes)) : ∃ n, wY_pump_78 post (nI c) g_many (nI q) f_noteCount f_over f_pressed f_focus g_acted n (nI (3 * c)) a_there a_kinds (fun j => a_wishedPlaces (2 * j)) (fun j => a_wishedPlaces (2 * j + 1)) (fun j => a_wishedSizes (2 * j)) (fun j => a_wishedSizes (2 * j + 1)) a_colours a_layouts a_gaps a_weights (fun j => a_shifts (2 * j)) (fun j => a_shifts (2 * j + 1)) a_visible a_enabled a_on a_values a_parents a_effects a_targets b_kids b_kidCount b_left b_top b_width b_height b_order b_stack a_pixels b_events a_notes := by
  have e3c : 3 * nI c = nI (3 * c) := pd_3 c
  have e3q : 3 * nI q = nI (3 * q) := pd_3 q
  have go : ∀ (d i : Nat), i + d = 3 * q → 3 * c ≤ i → wY_pump_78 post (nI c) g_many (nI q) f_noteCount f_over f_pressed f_focus g_acted (d + 1) (nI i) a_there a_kinds (fun j => a_wishedPlaces (2 * j)) (fun j => a_wishedPlaces (2 * j + 1)) (fun j => a_wishedSizes (2 * j)) (fun j => a_wishedSizes (2 * j + 1)) a_colours a_layouts a_gaps a_weights (fun j => a_shifts (2 * j)) (fun j => a_shifts (2 * j + 1)) a_visible a_enabled a_on a_values a_parents a_effects a_targets b_kids b_kidCount b_left b_top b_width b_height b_order b_stack a_pixels (pd_S b_events (3 * c) i) a_notes := by
    intro d
    induction d with
    | zero =>
      intro i hi _
      have e : i = 3 * q := hi
      subst e
      rw [wY_pump_78]
      exact br_t (by rw [e3q]; exact Int32.le_refl _) (nm_r (pd_sub hc) h)
    | succ d ih =>
      intro i hi hci
      rw [wY_pump_78]
      dsimp only
      rw [e3c, e3q, pd_cl (n := i) (by omega), pd_Sg, pd_sub hci, pd_cl (by omega), pd_S1 _ hci]
      exact br_f (nI_ge (by omega) (by omega)) ⟨vp_in_nI (by omega) (by omega), vp_in_nI (by omega) (by omega), nm_e (nm_r (nI_1 i) (ih (i + 1) (by omega) (by omega)))⟩
  have k := go (3 * q - 3 * c) (3 * c) (by omega) (Nat.le_refl _)
  rw [pd_S0] at k
  exact ⟨_, k⟩
theorem pd_QUd {c q : Nat} {ek ex ey ev : Nat → Int32} (hc : c ≤ q) (hq : q ≤ 16) (h : ∀ i, i < q → (∃ k, k ≤ 4 ∧ ek i = nI k) ∧ ev (3 * i) = ek i ∧ ev (3 * i + 1) = ex i ∧ ev (3 * i + 2) = ey i) :
    pd_QU (nI (q - c)) (nI (q - c)) (pd_S ek c q) (pd_S ex c q) (pd_S ey c q) (pd_S ev (3 * c) (3 * q)) := by
  refine ⟨q - c, by omega, rfl, rfl, fun i hi => ?_⟩
  have e1 : ∀ f : Nat → Int32, pd_S f c q i = f (i + c) := fun f => if_pos (by omega)
  have e2 : ∀ r, r < 3 → pd_S ev (3 * c) (3 * q) (3 * i + r) = ev (3 * (i + c) + r) := fun r hr => by
    unfold pd_S
    rw [if_pos (by omega), show 3 * i + r + 3 * c = 3 * (i + c) + r by omega]
  have h0 := e2 0 (by omega)
  rw [Nat.add_zero, Nat.add_zero] at h0
  rw [e1, e1, e1, h0, e2 1 (by omega), e2 2 (by omega)]
  exact h (i + c) (by omega)
theorem pd_pumpL {rk : Nat → Nat} {c q : Nat} (hc : c ≤ q) (hq : q ≤ 16) (hE : ∀ i, i < q → (∃ k, k ≤ 4 ∧ a_eventKinds i = nI k) ∧ b_events (3 * i) = a_eventKinds i ∧ b_events (3 * i + 1) = a_eventXs i ∧ b_events (3 * i + 2) = a_eventYs i) :
    ∀ (d i : Nat) (m : Int32) (L : List Nat) (G : Nat → pd_V) (fs ov pr fo nc : Int32) (st va vi en on sh ns ki kc : Nat → Int32), i + d = c →
    pd_MM a_there a_parents L rk fs st kc ki a_wishedPlaces a_wishedSizes a_weights a_layouts a_targets sh ov pr fo → pd_LE a_parents a_wishedPlaces a_wishedSizes sh vi en a_layouts a_gaps a_weights L G →
    ∃ (m' : Int32) (L' : List Nat) (G' : Nat → pd_V) (fs' ov' pr' fo' nc' : Int32) (st' va' vi' en' on' sh' ns' ki' kc' : Nat → Int32),
    pd_MM a_there a_parents L' rk fs' st' kc' ki' a_wishedPlaces a_wishedSizes a_weights a_layouts a_targets sh' ov' pr' fo' ∧ pd_LE a_parents a_wishedPlaces a_wishedSizes sh' vi' en' a_layouts a_gaps a_weights L' G' ∧
    (∀ (f_treeSize : Int32) (a_tree a_seen a_able a_places a_sizes a_clipStarts a_clipEnds : Nat → Int32) (post : Int32 → SX → Prop), pd_DG G a_parents L f_treeSize a_tree a_seen a_able a_places a_sizes a_clipStarts a_clipEnds →
      (∀ tn tr se ab pl sz cs ce, pd_DG G' a_parents L' tn tr se ab pl sz cs ce → wpX_dropEvents (fun u => match u with | (f_stacked1, f_treeSize1, f_over1, f_pressed1, f_focus1, f_waiting1, f_noteCount1, a_there1, a_parents1, a_kinds1, a_colours1, a_weights1, a_gaps1, a_layouts1, a_values1, a_effects1, a_targets1, a_visible1, a_enabled1, a_on1, a_wishedPlaces1, a_wishedSizes1, a_shifts1, a_stack1, a_tree1, a_seen1, a_able1, a_places1, a_sizes1, a_clipStarts1, a_clipEnds1, a_eventKinds1, a_eventXs1, a_eventYs1, a_notes1, a_pixels1) => wpX_draw (fun u => match u with | (f_stacked2, f_treeSize2, f_over2, f_pressed2, f_focus2, f_waiting2, f_noteCount2, a_there2, a_parents2, a_kinds2, a_colours2, a_weights2, a_gaps2, a_layouts2, a_values2, a_effects2, a_targets2, a_visible2, a_enabled2, a_on2, a_wishedPlaces2, a_wishedSizes2, a_shifts2, a_stack2, a_tree2, a_seen2, a_able2, a_places2, a_sizes2, a_clipStarts2, a_clipEnds2, a_eventKinds2, a_eventXs2, a_eventYs2, a_notes2, a_pixels2) => post (nI c) (f_stacked2, f_treeSize2, f_over2, f_pressed2, f_focus2, f_waiting2, f_noteCount2, a_there2, a_parents2, a_kinds2, a_colours2, a_weights2, a_gaps2, a_layouts2, a_values2, a_effects2, a_targets2, a_visible2, a_enabled2, a_on2, a_wishedPlaces2, a_wishedSizes2, a_shifts2, a_stack2, a_tree2, a_seen2, a_able2, a_places2, a_sizes2, a_clipStarts2, a_clipEnds2, a_eventKinds2, a_eventXs2, a_eventYs2, a_notes2, a_pixels2)) (f_stacked1, f_treeSize1, f_over1, f_pressed1, f_focus1, f_waiting1, f_noteCount1, a_there1, a_parents1, a_kinds1, a_colours1, a_weights1, a_gaps1, a_layouts1, a_values1, a_effects1, a_targets1, a_visible1, a_enabled1, a_on1, a_wishedPlaces1, a_wishedSizes1, a_shifts1, a_stack1, a_tree1, a_seen1, a_able1, a_places1, a_sizes1, a_clipStarts1, a_clipEnds1, a_eventKinds1, a_eventXs1, a_eventYs1, a_notes1, a_pixels1))
        (fs', tn, ov', pr', fo', nI q, nc', a_there, a_parents, a_kinds, a_colours, a_weights, a_gaps, a_layouts, va', a_effects, a_targets, vi', en', on', a_wishedPlaces, a_wishedSizes, sh', st', tr, se, ab, pl, sz, cs, ce, a_eventKinds, a_eventXs, a_eventYs, ns', a_pixels) (nI c)) →
      wX_pump_31 post (nI c) (d + 1) (nI i) fs f_treeSize ov pr fo (nI q) nc a_there a_parents a_kinds a_colours a_weights a_gaps a_layouts va a_effects a_targets vi en on a_wishedPlaces a_wishedSizes sh st a_tree a_seen a_able a_places a_sizes a_clipStarts a_clipEnds a_eventKinds a_eventXs a_eventYs ns a_pixels) ∧
    (∀ (g_many : Int32) (b_left b_top b_width b_height b_order b_stack : Nat → Int32) (post : Int32 → SY → Prop),
      (∀ mn od sk lf tp wd hg, ∃ n78, wY_pump_78 post (nI c) mn (nI q) nc' ov' pr' fo' m' n78 (nI (3 * c)) a_there a_kinds (fun j => a_wishedPlaces (2 * j)) (fun j => a_wishedPlaces (2 * j + 1)) (fun j => a_wishedSizes (2 * j)) (fun j => a_wishedSizes (2 * j + 1)) a_colours a_layouts a_gaps a_weights (fun j => sh' (2 * j)) (fun j => sh' (2 * j + 1)) vi' en' on' va' a_parents a_effects a_targets ki' kc' lf tp wd hg od sk a_pixels b_events ns') →
      wY_pump_31 post (nI c) (d + 1) (nI i) g_many (nI q) nc ov pr fo m a_there a_kinds (fun j => a_wishedPlaces (2 * j)) (fun j => a_wishedPlaces (2 * j + 1)) (fun j => a_wishedSizes (2 * j)) (fun j => a_wishedSizes (2 * j + 1)) a_colours a_layouts a_gaps a_weights (fun j => sh (2 * j)) (fun j => sh (2 * j + 1)) vi en on va a_parents a_effects a_targets ki kc b_left b_top b_width b_height b_order b_stack a_pixels b_events ns) := by
  intro d
  induction d with
  | zero =>
    intro i m L G fs ov pr fo nc st va vi en on sh ns ki kc hi hM hG
    have e : i = c := hi
    subst e
    refine ⟨m, L, G, fs, ov, pr, fo, nc, st, va, vi, en, on, sh, ns, ki, kc, hM, hG, fun f_treeSize a_tree a_seen a_able a_places a_sizes a_clipStarts a_clipEnds post hD h => ?_, fun g_many b_left b_top b_width b_height b_order b_stack post h => ?_⟩
    · rw [wX_pump_31]
      exact br_t (Int32.le_refl _) (h _ _ _ _ _ _ _ _ hD)
    · rw [wY_pump_31]
      exact br_t (Int32.le_refl _) (nm_r (pd_3 i) (h _ _ _ _ _ _ _))
  | succ d ih =>
    intro i m L G fs ov pr fo nc st va vi en on sh ns ki kc hi hM hG
    obtain ⟨⟨k, hk, ek⟩, b0, b1, b2⟩ := hE i (by omega)
    obtain ⟨m1, L1, fs1, ov1, pr1, fo1, nc1, st1, va1, vi1, en1, on1, sh1, ns1, ki1, kc1, hM1, hx, hy⟩ := pd_evt (f_stacked := fs) (f_over := ov) (f_pressed := pr) (f_focus := fo) (f_waiting := (nI q)) (f_noteCount := nc) (a_there := a_there) (a_parents := a_parents) (a_kinds := a_kinds) (a_colours := a_colours) (a_weights := a_weights) (a_gaps := a_gaps) (a_layouts := a_layouts) (a_values := va) (a_effects := a_effects) (a_targets := a_targets) (a_visible := vi) (a_enabled := en) (a_on := on) (a_wishedPlaces := a_wishedPlaces) (a_wishedSizes := a_wishedSizes) (a_shifts := sh) (a_stack := st) (a_eventKinds := a_eventKinds) (a_eventXs := a_eventXs) (a_eventYs := a_eventYs) (a_notes := ns) (a_pixels := a_pixels) (g_waiting := (nI q)) (g_acted := m) (b_kids := ki) (b_kidCount := kc) (b_events := b_events) hk (a_eventXs i) (a_eventYs i) hM hG
    obtain ⟨G1, hG1⟩ := pd_Gex a_wishedPlaces a_wishedSizes sh1 vi1 en1 a_layouts a_gaps a_weights hM1.1
    obtain ⟨m2, L2, G2, fs2, ov2, pr2, fo2, nc2, st2, va2, vi2, en2, on2, sh2, ns2, ki2, kc2, hM2, hG2, hx2, hy2⟩ := ih (i + 1) m1 L1 G1 fs1 ov1 pr1 fo1 nc1 st1 va1 vi1 en1 on1 sh1 ns1 ki1 kc1 (by omega) hM1 hG1
    refine ⟨m2, L2, G2, fs2, ov2, pr2, fo2, nc2, st2, va2, vi2, en2, on2, sh2, ns2, ki2, kc2, hM2, hG2, fun f_treeSize a_tree a_seen a_able a_places a_sizes a_clipStarts a_clipEnds post hD h => ?_, fun g_many b_left b_top b_width b_height b_order b_stack post h => ?_⟩
    · have vi' : vp_in (nI i) 16 := vp_in_nI (by omega) (by omega)
      rw [wX_pump_31]
      dsimp only
      rw [pd_cl (n := i) (by omega), ek]
      refine br_f (nI_ge (by omega) (by omega)) ⟨vi', vi', vi', hx f_treeSize a_tree a_seen a_able a_places a_sizes a_clipStarts a_clipEnds _ hD ?_⟩
      exact px_settleG hM1.1 hM1.2.1 hM1.2.2.2.1 hG1 (fun tn tr se ab pl sz cs ce hD1 => nm_r (nI_1 i) (hx2 tn tr se ab pl sz cs ce post hD1 h))
    · have e0 : 3 * nI i = nI (3 * i) := pd_3 i
      have e1 : nI (3 * i) + 1 = nI (3 * i + 1) := nI_1 _
      have e2 : nI (3 * i) + 2 = nI (3 * i + 2) := nI_add (3 * i) 2
      rw [wY_pump_31]
      dsimp only
      rw [e0, e1, e2, pd_cl (n := 3 * i) (by omega), pd_cl (n := 3 * i + 1) (by omega), pd_cl (n := 3 * i + 2) (by omega), b0, b1, b2, ek]
      refine br_f (nI_ge (by omega) (by omega)) ⟨vp_in_nI (by omega) (by omega), vp_in_nI (by omega) (by omega), vp_in_nI (by omega) (by omega), hy g_many b_left b_top b_width b_height b_order b_stack _ (fun mn od sk lf tp wd hg => nm_r (nI_1 i) ?_)⟩
      exact hy2 mn lf tp wd hg od sk post h
end PEB
