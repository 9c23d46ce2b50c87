section PDV
variable {f_stacked f_treeSize f_over f_pressed f_focus f_waiting f_noteCount : Int32} {a_there a_parents a_kinds a_colours a_weights a_gaps a_layouts a_values a_effects a_targets a_visible a_enabled a_on a_wishedPlaces a_wishedSizes a_shifts a_stack a_tree a_seen a_able a_places a_sizes a_clipStarts a_clipEnds a_eventKinds a_eventXs a_eventYs a_notes a_pixels : Nat → Int32}
variable {g_many g_waiting g_acted : Int32} {b_kids b_kidCount b_left b_top b_width b_height b_order b_stack b_events : Nat → Int32}
theorem px_draw24 {post : SX → Prop} {L : List Nat} {rk : Nat → Nat} {G : Nat → pd_V} {N : Nat} (H : pd_BI a_there a_parents L rk) (hG : pd_LE a_parents a_wishedPlaces a_wishedSizes a_shifts a_visible a_enabled a_layouts a_gaps a_weights L G) (hV : pd_VA a_wishedPlaces a_wishedSizes a_weights a_layouts a_targets a_shifts) (hN : N ≤ 12)
    (hD : ∀ w, (w = 0 ∨ w ∈ L) → pd_DA G a_seen a_able a_places a_sizes a_clipStarts a_clipEnds w) :
    ∀ (R : List Nat) (i n : Nat) (px : Nat → Int32), pd_sg a_tree i R → i + R.length = N → R.length < n → (∀ w, w ∈ R → w = 0 ∨ w ∈ L) →
    post (f_stacked, nI N, f_over, f_pressed, f_focus, f_waiting, f_noteCount, a_there, a_parents, a_kinds, a_colours, a_weights, a_gaps, a_layouts, a_values, a_effects, a_targets, a_visible, a_enabled, a_on, a_wishedPlaces, a_wishedSizes, a_shifts, a_stack, a_tree, a_seen, a_able, a_places, a_sizes, a_clipStarts, a_clipEnds, a_eventKinds, a_eventXs, a_eventYs, a_notes, (fun q => if q < 512 then pd_px a_kinds a_on a_colours f_pressed f_over f_focus G (nI (q % 32)) (nI (q / 32)) R (px q) else px q)) →
    wX_draw_24 post n (nI i) f_stacked (nI N) f_over f_pressed f_focus f_waiting f_noteCount a_there a_parents a_kinds a_colours a_weights a_gaps a_layouts a_values a_effects a_targets a_visible a_enabled a_on a_wishedPlaces a_wishedSizes a_shifts a_stack a_tree a_seen a_able a_places a_sizes a_clipStarts a_clipEnds a_eventKinds a_eventXs a_eventYs a_notes px := by
  intro R
  induction R with
  | nil =>
    intro i n px _ hi hn _ h
    obtain ⟨n, rfl⟩ : ∃ m, n = m + 1 := ⟨n - 1, by omega⟩
    rw [wX_draw_24]
    have hi' : i = N := hi
    have e : (fun q => if q < 512 then pd_px a_kinds a_on a_colours f_pressed f_over f_focus G (nI (q % 32)) (nI (q / 32)) [] (px q) else px q) = px := by
      funext q
      by_cases c : q < 512
      · rw [if_pos c]; rfl
      · rw [if_neg c]
    rw [e] at h
    exact br_t (by rw [hi']; exact Int32.le_refl _) h
  | cons w R ih =>
    intro i n px hs hi hn hR h
    obtain ⟨n, rfl⟩ : ∃ m, n = m + 1 := ⟨n - 1, by omega⟩
    rw [List.length_cons] at hi hn
    have hw := hR w (List.mem_cons_self ..)
    have hw12 := pd_12lt H.2.1 hw
    have es : a_tree (nI i).toNatClampNeg = nI w := by rw [pd_cl (by omega)]; exact hs.1
    have hR' : ∀ v, v ∈ R → v = 0 ∨ v ∈ L := fun v hv => hR v (List.mem_cons_of_mem _ hv)
    rw [wX_draw_24]
    dsimp only
    rw [es, pd_cl (n := w) (by omega), (hD w hw).2.1]
    refine br_f (nI_ge (by omega) (by omega)) ⟨vp_in_nI (by omega) (by omega), vp_in_nI hw12 (by omega), ?_⟩
    by_cases c : (G w).2.2.1 = 0
    · refine br_t c (nm_r (nI_1 i) (ih (i + 1) n px hs.2 (by omega) (by omega) hR' ?_))
      have e : (fun q => if q < 512 then pd_px a_kinds a_on a_colours f_pressed f_over f_focus G (nI (q % 32)) (nI (q / 32)) (w :: R) (px q) else px q) = (fun q => if q < 512 then pd_px a_kinds a_on a_colours f_pressed f_over f_focus G (nI (q % 32)) (nI (q / 32)) R (px q) else px q) := by
        funext q
        by_cases cq : q < 512
        · rw [if_pos cq, if_pos cq]
          show pd_px a_kinds a_on a_colours f_pressed f_over f_focus G (nI (q % 32)) (nI (q / 32)) R (pd_px1 a_kinds a_on a_colours f_pressed f_over f_focus G w (nI (q % 32)) (nI (q / 32)) (px q)) = _
          have e1 : pd_px1 a_kinds a_on a_colours f_pressed f_over f_focus G w (nI (q % 32)) (nI (q / 32)) (px q) = px q := by
            unfold pd_px1; exact if_neg (fun y => y.1 c)
          rw [e1]
        · rw [if_neg cq, if_neg cq]
      rw [e] at h
      exact h
    · refine br_f c ⟨vp_in_nI (by omega) (by omega), px_dw (G := G) H hG hV hw (hD w hw) c (nm_r (nI_1 i) (ih (i + 1) n _ hs.2 (by omega) (by omega) hR' ?_))⟩
      have e : (fun q => if q < 512 then pd_px a_kinds a_on a_colours f_pressed f_over f_focus G (nI (q % 32)) (nI (q / 32)) (w :: R) (px q) else px q) = (fun q => if q < 512 then pd_px a_kinds a_on a_colours f_pressed f_over f_focus G (nI (q % 32)) (nI (q / 32)) R ((fun q => if q < 512 then pd_px1 a_kinds a_on a_colours f_pressed f_over f_focus G w (nI (q % 32)) (nI (q / 32)) (px q) else px q) q) else (fun q => if q < 512 then pd_px1 a_kinds a_on a_colours f_pressed f_over f_focus G w (nI (q % 32)) (nI (q / 32)) (px q) else px q) q) := by
        funext q
        dsimp only
        by_cases cq : q < 512
        · rw [if_pos cq, if_pos cq, if_pos cq]; rfl
        · rw [if_neg cq, if_neg cq, if_neg cq]
      rw [e] at h
      exact h
/-- the drawn screen -/
def pd_C (kd on co : Nat → Int32) (pr ov fo : Int32) (G : Nat → pd_V) (O : List Nat) : Nat → Int32 := fun q => pd_px kd on co pr ov fo G (nI (q % 32)) (nI (q / 32)) O 0
theorem px_draw {post : SX → Prop} {L : List Nat} {rk : Nat → Nat} {G : Nat → pd_V} (H : pd_BI a_there a_parents L rk) (hG : pd_LE a_parents a_wishedPlaces a_wishedSizes a_shifts a_visible a_enabled a_layouts a_gaps a_weights L G) (hV : pd_VA a_wishedPlaces a_wishedSizes a_weights a_layouts a_targets a_shifts)
    (hD : pd_DG G a_parents L f_treeSize a_tree a_seen a_able a_places a_sizes a_clipStarts a_clipEnds)
    (h : post (f_stacked, f_treeSize, f_over, f_pressed, f_focus, f_waiting, f_noteCount, a_there, a_parents, a_kinds, a_colours, a_weights, a_gaps, a_layouts, a_values, a_effects, a_targets, a_visible, a_enabled, a_on, a_wishedPlaces, a_wishedSizes, a_shifts, a_stack, a_tree, a_seen, a_able, a_places, a_sizes, a_clipStarts, a_clipEnds, a_eventKinds, a_eventXs, a_eventYs, a_notes, pd_Z (pd_C a_kinds a_on a_colours f_pressed f_over f_focus G (pd_ord a_parents L)) a_pixels 512)) : wpX_draw post (f_stacked, f_treeSize, f_over, f_pressed, f_focus, f_waiting, f_noteCount, a_there, a_parents, a_kinds, a_colours, a_weights, a_gaps, a_layouts, a_values, a_effects, a_targets, a_visible, a_enabled, a_on, a_wishedPlaces, a_wishedSizes, a_shifts, a_stack, a_tree, a_seen, a_able, a_places, a_sizes, a_clipStarts, a_clipEnds, a_eventKinds, a_eventXs, a_eventYs, a_notes, a_pixels) := by
  obtain ⟨rfl, hs, hd⟩ := hD
  have hl := pd_ordL H
  have go : ∀ (d j : Nat), j + d = 512 → wX_draw_2 post f_stacked (nI (pd_ord a_parents L).length) f_over f_pressed f_focus f_waiting f_noteCount (d + 1) (nI j) a_there a_parents a_kinds a_colours a_weights a_gaps a_layouts a_values a_effects a_targets a_visible a_enabled a_on a_wishedPlaces a_wishedSizes a_shifts a_stack a_tree a_seen a_able a_places a_sizes a_clipStarts a_clipEnds a_eventKinds a_eventXs a_eventYs a_notes (pd_Z (fun _ => 0) a_pixels j) := by
    intro d
    induction d with
    | zero =>
      intro j hj
      have e : j = 512 := hj
      subst e
      rw [wX_draw_2]
      refine br_t (nI_le (a := 512) (by omega) (by omega)) ⟨(pd_ord a_parents L).length + 1, ?_⟩
      refine px_draw24 (G := G) H hG hV hl hd (pd_ord a_parents L) 0 _ _ hs (by omega) (by omega) (fun w hw => (pd_ordM H w).mp hw) ?_
      have e : (fun q => if q < 512 then pd_px a_kinds a_on a_colours f_pressed f_over f_focus G (nI (q % 32)) (nI (q / 32)) (pd_ord a_parents L) (pd_Z (fun _ => 0) a_pixels 512 q) else pd_Z (fun _ => 0) a_pixels 512 q) = pd_Z (pd_C a_kinds a_on a_colours f_pressed f_over f_focus G (pd_ord a_parents L)) a_pixels 512 := by
        funext q
        unfold pd_Z pd_C
        by_cases c : q < 512
        · rw [if_pos c, if_pos c, if_pos c]
        · rw [if_neg c, if_neg c, if_neg c]
      rw [e]
      exact h
    | succ d ih =>
      intro j hj
      rw [wX_draw_2]
      refine br_f (nI_ge (b := 512) (by omega) (by omega)) ⟨vp_in_nI (by omega) (by omega), nm_r (e' := pd_Z (fun _ => 0) a_pixels (j + 1)) ?_ (nm_r (nI_1 j) (ih (j + 1) (by omega)))⟩
      rw [pd_cl (by omega)]
      exact pd_Z1 (fun _ => 0) a_pixels j
  have k := go 512 0 rfl
  rw [pd_Z0] at k
  exact ⟨513, k⟩
/-! Y's drawing -/
theorem py_rim {post : Int32 → Prop} {w : Nat} {x y : Int32} {G : Nat → pd_V} (hw : w < 12) (hA : pd_YA G b_left b_top b_width b_height w) (h1 : pd_rim (G w) x y → post 1) (h0 : ¬ pd_rim (G w) x y → post 0) : wpY_isRim post (g_many, g_waiting, f_noteCount, f_over, f_pressed, f_focus, g_acted, a_there, a_kinds, (fun j => a_wishedPlaces (2 * j)), (fun j => a_wishedPlaces (2 * j + 1)), (fun j => a_wishedSizes (2 * j)), (fun j => a_wishedSizes (2 * j + 1)), a_colours, a_layouts, a_gaps, a_weights, (fun j => a_shifts (2 * j)), (fun j => a_shifts (2 * j + 1)), a_visible, a_enabled, a_on, a_values, a_parents, a_effects, a_targets, b_kids, b_kidCount, b_left, b_top, b_width, b_height, b_order, b_stack, a_pixels, b_events, a_notes) (nI w) x y := by
  have vw : vp_in (nI w) 12 := vp_in_nI hw (by omega)
  have cw : (nI w).toNatClampNeg = w := pd_cl (by omega)
  obtain ⟨a1, a2, a3, a4⟩ := hA
  refine ⟨vw, ?_⟩
  rw [cw, a1, a2, a3, a4]
  by_cases b1 : x = (G w).1 0
  · exact br_t b1 (h1 (Or.inl b1))
  · by_cases b2 : x = (G w).1 0 + (G w).2.1 0 - 1
    · exact br_f b1 ⟨vw, vw, br_t b2 (h1 (Or.inr (Or.inl b2)))⟩
    · by_cases b3 : y = (G w).1 1
      · exact br_f b1 ⟨vw, vw, br_f b2 ⟨vw, br_t b3 (h1 (Or.inr (Or.inr (Or.inl b3))))⟩⟩
      · by_cases b4 : y = (G w).1 1 + (G w).2.1 1 - 1
        · exact br_f b1 ⟨vw, vw, br_f b2 ⟨vw, br_f b3 ⟨vw, vw, br_t b4 (h1 (Or.inr (Or.inr (Or.inr b4))))⟩⟩⟩
        · exact br_f b1 ⟨vw, vw, br_f b2 ⟨vw, br_f b3 ⟨vw, vw, br_f b4 (h0 (fun z => z.elim b1 (fun z => z.elim b2 (fun z => z.elim b3 b4))))⟩⟩⟩
theorem py_paint {post : Int32 → Prop} {w : Nat} {L : List Nat} {rk : Nat → Nat} {G : Nat → pd_V} (H : pd_BI a_there a_parents L rk) (hG : pd_LE a_parents a_wishedPlaces a_wishedSizes a_shifts a_visible a_enabled a_layouts a_gaps a_weights L G) (hw : w = 0 ∨ w ∈ L)
    (h : post (pd_shd a_kinds a_on a_colours f_pressed f_over G w)) : wpY_paint post (g_many, g_waiting, f_noteCount, f_over, f_pressed, f_focus, g_acted, a_there, a_kinds, (fun j => a_wishedPlaces (2 * j)), (fun j => a_wishedPlaces (2 * j + 1)), (fun j => a_wishedSizes (2 * j)), (fun j => a_wishedSizes (2 * j + 1)), a_colours, a_layouts, a_gaps, a_weights, (fun j => a_shifts (2 * j)), (fun j => a_shifts (2 * j + 1)), a_visible, a_enabled, a_on, a_values, a_parents, a_effects, a_targets, b_kids, b_kidCount, b_left, b_top, b_width, b_height, b_order, b_stack, a_pixels, b_events, a_notes) (nI w) := by
  have hw12 := pd_12lt H.2.1 hw
  have vw : vp_in (nI w) 12 := vp_in_nI hw12 (by omega)
  have cw : (nI w).toNatClampNeg = w := pd_cl (by omega)
  have f73 : ∀ z0, z0 = (if (a_kinds w = 2 ∧ ¬ a_on w = 0) ∨ (a_kinds w = 1 ∧ f_pressed = nI w ∧ f_over = nI w) then a_colours w ^^^ 8 else a_colours w) → wY_paint_73 post (nI w) z0 g_many g_waiting f_noteCount f_over f_pressed f_focus g_acted a_there a_kinds (fun j => a_wishedPlaces (2 * j)) (fun j => a_wishedPlaces (2 * j + 1)) (fun j => a_wishedSizes (2 * j)) (fun j => a_wishedSizes (2 * j + 1)) a_colours a_layouts a_gaps a_weights (fun j => a_shifts (2 * j)) (fun j => a_shifts (2 * j + 1)) a_visible a_enabled a_on a_values a_parents a_effects a_targets b_kids b_kidCount b_left b_top b_width b_height b_order b_stack a_pixels b_events a_notes := by
    intro z0 e
    unfold pd_shd at h
    rw [← e] at h
    unfold wY_paint_73
    refine py_able (G := G) H hG w hw (fun c => ?_) (fun c => ?_)
    · rw [if_neg c] at h; exact br_f (by decide) h
    · rw [if_pos c] at h; exact br_t rfl h
  have f45 : ((a_kinds w = 2 ∧ ¬ a_on w = 0) ∨ (a_kinds w = 1 ∧ f_pressed = nI w ∧ f_over = nI w)) → wY_paint_45 post (nI w) g_many g_waiting f_noteCount f_over f_pressed f_focus g_acted a_there a_kinds (fun j => a_wishedPlaces (2 * j)) (fun j => a_wishedPlaces (2 * j + 1)) (fun j => a_wishedSizes (2 * j)) (fun j => a_wishedSizes (2 * j + 1)) a_colours a_layouts a_gaps a_weights (fun j => a_shifts (2 * j)) (fun j => a_shifts (2 * j + 1)) a_visible a_enabled a_on a_values a_parents a_effects a_targets b_kids b_kidCount b_left b_top b_width b_height b_order b_stack a_pixels b_events a_notes := fun c => br_f (by decide) ⟨vw, f73 _ (by rw [cw, if_pos c])⟩
  have f49 : ¬ ((a_kinds w = 2 ∧ ¬ a_on w = 0) ∨ (a_kinds w = 1 ∧ f_pressed = nI w ∧ f_over = nI w)) → wY_paint_49 post (nI w) g_many g_waiting f_noteCount f_over f_pressed f_focus g_acted a_there a_kinds (fun j => a_wishedPlaces (2 * j)) (fun j => a_wishedPlaces (2 * j + 1)) (fun j => a_wishedSizes (2 * j)) (fun j => a_wishedSizes (2 * j + 1)) a_colours a_layouts a_gaps a_weights (fun j => a_shifts (2 * j)) (fun j => a_shifts (2 * j + 1)) a_visible a_enabled a_on a_values a_parents a_effects a_targets b_kids b_kidCount b_left b_top b_width b_height b_order b_stack a_pixels b_events a_notes := fun c => br_t rfl ⟨vw, f73 _ (by rw [cw, if_neg c])⟩
  have f19 : ¬ (a_kinds w = 2 ∧ ¬ a_on w = 0) → wY_paint_19 post (nI w) g_many g_waiting f_noteCount f_over f_pressed f_focus g_acted a_there a_kinds (fun j => a_wishedPlaces (2 * j)) (fun j => a_wishedPlaces (2 * j + 1)) (fun j => a_wishedSizes (2 * j)) (fun j => a_wishedSizes (2 * j + 1)) a_colours a_layouts a_gaps a_weights (fun j => a_shifts (2 * j)) (fun j => a_shifts (2 * j + 1)) a_visible a_enabled a_on a_values a_parents a_effects a_targets b_kids b_kidCount b_left b_top b_width b_height b_order b_stack a_pixels b_events a_notes := by
    intro hn
    refine ⟨vw, ?_⟩
    rw [cw]
    by_cases k1 : a_kinds w = 1
    · refine br_t k1 ?_
      by_cases k2 : nI w = f_pressed
      · refine br_t k2 ?_
        by_cases k3 : nI w = f_over
        · exact br_t k3 (f45 (Or.inr ⟨k1, k2.symm, k3.symm⟩))
        · exact br_f k3 (f49 (fun z => z.elim hn (fun z => k3 z.2.2.symm)))
      · exact br_f k2 (f49 (fun z => z.elim hn (fun z => k2 z.2.1.symm)))
    · exact br_f k1 (f49 (fun z => z.elim hn (fun z => k1 z.1)))
  refine ⟨vw, ?_⟩
  rw [cw]
  by_cases k2 : a_kinds w = 2
  · refine br_t k2 ⟨vw, ?_⟩
    by_cases k3 : a_on w = 0
    · exact br_t k3 (f19 (fun z => z.2 k3))
    · exact br_f k3 (f45 (Or.inl ⟨k2, k3⟩))
  · exact br_f k2 (f19 (fun z => k2 z.1))
theorem py_draw17 {post : SY → Prop} {J : _} {L : List Nat} {rk : Nat → Nat} {G : Nat → pd_V} {N j : Nat} (H : pd_BI a_there a_parents L rk) (hG : pd_LE a_parents a_wishedPlaces a_wishedSizes a_shifts a_visible a_enabled a_layouts a_gaps a_weights L G) (hN : N ≤ 12) (hj : j < 512)
    (hA : ∀ w, (w = 0 ∨ w ∈ L) → pd_YA G b_left b_top b_width b_height w) :
    ∀ (R : List Nat) (i n : Nat) (c : Int32), pd_sg b_order i R → i + R.length = N → R.length < n → (∀ w, w ∈ R → w = 0 ∨ w ∈ L) →
    J (nI (j + 1)) a_there a_kinds (fun j => a_wishedPlaces (2 * j)) (fun j => a_wishedPlaces (2 * j + 1)) (fun j => a_wishedSizes (2 * j)) (fun j => a_wishedSizes (2 * j + 1)) a_colours a_layouts a_gaps a_weights (fun j => a_shifts (2 * j)) (fun j => a_shifts (2 * j + 1)) a_visible a_enabled a_on a_values a_parents a_effects a_targets b_kids b_kidCount b_left b_top b_width b_height b_order b_stack (upd a_pixels j (pd_px a_kinds a_on a_colours f_pressed f_over f_focus G (nI (j % 32)) (nI (j / 32)) R c)) b_events a_notes →
    wY_draw_17 post J (nI j) (nI N) g_waiting f_noteCount f_over f_pressed f_focus g_acted a_there a_kinds (fun j => a_wishedPlaces (2 * j)) (fun j => a_wishedPlaces (2 * j + 1)) (fun j => a_wishedSizes (2 * j)) (fun j => a_wishedSizes (2 * j + 1)) a_colours a_layouts a_gaps a_weights (fun j => a_shifts (2 * j)) (fun j => a_shifts (2 * j + 1)) a_visible a_enabled a_on a_values a_parents a_effects a_targets b_kids b_kidCount b_left b_top b_width b_height b_order b_stack a_pixels b_events a_notes n c (nI i) := by
  have er : nI j - nI j / 32 * 32 = nI (j % 32) := pk_rem (d := 32) (by omega) (by omega) (by omega)
  have ed : nI j / 32 = nI (j / 32) := pk_div (d := 32) (by omega) (by omega) (by omega)
  have n32 : ¬ (32 : Int32) = 0 := by decide
  intro R
  induction R with
  | nil =>
    intro i n c _ hi hn _ h
    obtain ⟨n, rfl⟩ : ∃ m, n = m + 1 := ⟨n - 1, by omega⟩
    rw [wY_draw_17]
    have hi' : i = N := hi
    exact br_t (by rw [hi']; exact Int32.le_refl _) ⟨vp_in_nI hj (by omega), nm_r (e' := upd a_pixels j c) (by rw [pd_cl (by omega)]) (nm_r (nI_1 j) h)⟩
  | cons w R ih =>
    intro i n c hs hi hn hR h
    obtain ⟨n, rfl⟩ : ∃ m, n = m + 1 := ⟨n - 1, by omega⟩
    rw [List.length_cons] at hi hn
    have hw := hR w (List.mem_cons_self ..)
    have hw12 := pd_12lt H.2.1 hw
    have hR' : ∀ v, v ∈ R → v = 0 ∨ v ∈ L := fun v hv => hR v (List.mem_cons_of_mem _ hv)
    have k : ∀ c', c' = pd_px1 a_kinds a_on a_colours f_pressed f_over f_focus G w (nI (j % 32)) (nI (j / 32)) c → wY_draw_17 post J (nI j) (nI N) g_waiting f_noteCount f_over f_pressed f_focus g_acted a_there a_kinds (fun j => a_wishedPlaces (2 * j)) (fun j => a_wishedPlaces (2 * j + 1)) (fun j => a_wishedSizes (2 * j)) (fun j => a_wishedSizes (2 * j + 1)) a_colours a_layouts a_gaps a_weights (fun j => a_shifts (2 * j)) (fun j => a_shifts (2 * j + 1)) a_visible a_enabled a_on a_values a_parents a_effects a_targets b_kids b_kidCount b_left b_top b_width b_height b_order b_stack a_pixels b_events a_notes n c' (nI (i + 1)) := by
      intro c' e
      subst e
      exact ih (i + 1) n _ hs.2 (by omega) (by omega) hR' h
    rw [wY_draw_17]
    refine br_f (nI_ge (by omega) (by omega)) ⟨vp_in_nI (by omega) (by omega), nm_r (e' := nI w) (by rw [pd_cl (by omega)]; exact hs.1) ⟨n32, n32, ?_⟩⟩
    rw [er, ed]
    have f86 : ∀ x5, (x5 = 0 ∧ ¬ pd_sho (G w) (nI (j % 32)) (nI (j / 32))) ∨ (x5 = 1 ∧ pd_sho (G w) (nI (j % 32)) (nI (j / 32)) ∧ ¬ (f_focus = nI w ∧ pd_rim (G w) (nI (j % 32)) (nI (j / 32)))) →
        wY_draw_86 post J (wY_draw_17 post J (nI j) (nI N) g_waiting f_noteCount f_over f_pressed f_focus g_acted a_there a_kinds (fun j => a_wishedPlaces (2 * j)) (fun j => a_wishedPlaces (2 * j + 1)) (fun j => a_wishedSizes (2 * j)) (fun j => a_wishedSizes (2 * j + 1)) a_colours a_layouts a_gaps a_weights (fun j => a_shifts (2 * j)) (fun j => a_shifts (2 * j + 1)) a_visible a_enabled a_on a_values a_parents a_effects a_targets b_kids b_kidCount b_left b_top b_width b_height b_order b_stack a_pixels b_events a_notes n) (nI j) c (nI i) (nI w) x5 (nI N) g_waiting f_noteCount f_over f_pressed f_focus g_acted a_there a_kinds (fun j => a_wishedPlaces (2 * j)) (fun j => a_wishedPlaces (2 * j + 1)) (fun j => a_wishedSizes (2 * j)) (fun j => a_wishedSizes (2 * j + 1)) a_colours a_layouts a_gaps a_weights (fun j => a_shifts (2 * j)) (fun j => a_shifts (2 * j + 1)) a_visible a_enabled a_on a_values a_parents a_effects a_targets b_kids b_kidCount b_left b_top b_width b_height b_order b_stack a_pixels b_events a_notes := by
      intro x5 hx
      rcases hx with ⟨e, hn⟩ | ⟨e, hy, hn⟩
      · exact br_t e (nm_r (nI_1 i) (k c (by unfold pd_px1; rw [if_neg hn])))
      · refine br_f (by rw [e]; decide) ⟨vp_in_nI hw12 (by omega), ?_⟩
        rw [pd_cl (by omega)]
        by_cases cc : a_colours w = 0
        · exact br_t cc (nm_r (nI_1 i) (k c (by unfold pd_px1; rw [if_pos hy, if_neg hn, if_pos cc])))
        · exact br_f cc (py_paint (G := G) H hG hw (nm_r (nI_1 i) (k _ (by unfold pd_px1; rw [if_pos hy, if_neg hn, if_neg cc]))))
    refine py_shows (G := G) H hG hA w hw (fun z => br_f (by decide) ?_) (fun z => br_t rfl (f86 0 (Or.inl ⟨rfl, z⟩)))
    by_cases cf : nI w = f_focus
    · refine br_t cf ⟨n32, n32, py_rim (G := G) hw12 (hA w hw) (fun y => br_f (by decide) (nm_r (nI_1 i) (k 15 ?_))) (fun y => br_t rfl (f86 1 (Or.inr ⟨rfl, z, fun x => y x.2⟩)))⟩
      unfold pd_px1
      rw [if_pos z, if_pos ⟨cf.symm, y⟩]
    · exact br_f cf (f86 1 (Or.inr ⟨rfl, z, fun x => cf x.1.symm⟩))
theorem py_draw {post : SY → Prop} {L : List Nat} {rk : Nat → Nat} {G : Nat → pd_V} (H : pd_BI a_there a_parents L rk) (hK : pd_KD a_parents b_kidCount b_kids L) (hV : pd_VA a_wishedPlaces a_wishedSizes a_weights a_layouts a_targets a_shifts)
    (hG : pd_LE a_parents a_wishedPlaces a_wishedSizes a_shifts a_visible a_enabled a_layouts a_gaps a_weights L G)
    (h : ∀ mn od st lf tp wd hg, post (mn, g_waiting, f_noteCount, f_over, f_pressed, f_focus, g_acted, a_there, a_kinds, (fun j => a_wishedPlaces (2 * j)), (fun j => a_wishedPlaces (2 * j + 1)), (fun j => a_wishedSizes (2 * j)), (fun j => a_wishedSizes (2 * j + 1)), a_colours, a_layouts, a_gaps, a_weights, (fun j => a_shifts (2 * j)), (fun j => a_shifts (2 * j + 1)), a_visible, a_enabled, a_on, a_values, a_parents, a_effects, a_targets, b_kids, b_kidCount, lf, tp, wd, hg, od, st, pd_Z (pd_C a_kinds a_on a_colours f_pressed f_over f_focus G (pd_ord a_parents L)) a_pixels 512, b_events, a_notes)) : wpY_draw post (g_many, g_waiting, f_noteCount, f_over, f_pressed, f_focus, g_acted, a_there, a_kinds, (fun j => a_wishedPlaces (2 * j)), (fun j => a_wishedPlaces (2 * j + 1)), (fun j => a_wishedSizes (2 * j)), (fun j => a_wishedSizes (2 * j + 1)), a_colours, a_layouts, a_gaps, a_weights, (fun j => a_shifts (2 * j)), (fun j => a_shifts (2 * j + 1)), a_visible, a_enabled, a_on, a_values, a_parents, a_effects, a_targets, b_kids, b_kidCount, b_left, b_top, b_width, b_height, b_order, b_stack, a_pixels, b_events, a_notes) := by
  have hl := pd_ordL H
  unfold wpY_draw
  refine py_rect (G := G) H hK hV hG (fun mn od st lf tp wd hg hO => ?_)
  obtain ⟨rfl, ho, hA⟩ := hO
  have go : ∀ (d j : Nat), j + d = 512 → wY_draw_6 post (nI (pd_ord a_parents L).length) g_waiting f_noteCount f_over f_pressed f_focus g_acted (d + 1) (nI j) a_there a_kinds (fun j => a_wishedPlaces (2 * j)) (fun j => a_wishedPlaces (2 * j + 1)) (fun j => a_wishedSizes (2 * j)) (fun j => a_wishedSizes (2 * j + 1)) a_colours a_layouts a_gaps a_weights (fun j => a_shifts (2 * j)) (fun j => a_shifts (2 * j + 1)) a_visible a_enabled a_on a_values a_parents a_effects a_targets b_kids b_kidCount lf tp wd hg od st (pd_Z (pd_C a_kinds a_on a_colours f_pressed f_over f_focus G (pd_ord a_parents L)) a_pixels j) b_events a_notes := by
    intro d
    induction d with
    | zero =>
      intro j hj
      have e : j = 512 := hj
      subst e
      rw [wY_draw_6]
      exact br_t (nI_le (a := 512) (by omega) (by omega)) (h _ od st lf tp wd hg)
    | succ d ih =>
      intro j hj
      rw [wY_draw_6]
      refine br_f (nI_ge (b := 512) (by omega) (by omega)) ⟨(pd_ord a_parents L).length + 1, ?_⟩
      refine py_draw17 (G := G) H hG hl (by omega) hA (pd_ord a_parents L) 0 _ 0 ho (by omega) (by omega) (fun w hw => (pd_ordM H w).mp hw) ?_
      have e := pd_Z1 (pd_C a_kinds a_on a_colours f_pressed f_over f_focus G (pd_ord a_parents L)) a_pixels j
      have k := ih (j + 1) (by omega)
      rw [← e] at k
      exact k
  have k := go 512 0 rfl
  rw [pd_Z0] at k
  exact ⟨513, k⟩
end PDV
