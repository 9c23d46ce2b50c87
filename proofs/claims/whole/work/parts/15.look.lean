section PDO
variable {f_stacked f_treeSize f_over f_pressed f_focus f_waiting f_noteCount : Int32} {a_there a_parents a_kinds a_colours a_weights a_gaps a_layouts a_values a_effects a_targets a_visible a_enabled a_on a_wishedPlaces a_wishedSizes a_shifts a_stack a_tree a_seen a_able a_places a_sizes a_clipStarts a_clipEnds a_eventKinds a_eventXs a_eventYs a_notes a_pixels : Nat → Int32}
variable {g_many g_waiting g_acted : Int32} {b_kids b_kidCount b_left b_top b_width b_height b_order b_stack b_events : Nat → Int32}
theorem pd_uP {P : Int32 → Prop} {f : Nat → Int32} {w N : Nat} {x : Int32} (h : ∀ c, c < N → P (f c)) (hx : P x) : ∀ c, c < N → P (upd f w x c) := by
  intro c hc
  by_cases e : c = w
  · subst e; rw [pd_us]; exact hx
  · rw [pd_un e]; exact h c hc
theorem pd_scr4 : ∀ (d i : Nat) (s : Int32), i + d = 512 → ∃ r, (∀ post : Int32 → Prop, post r → wX_screen_4 post f_stacked f_treeSize f_over f_pressed f_focus f_waiting f_noteCount a_there a_parents a_kinds a_colours a_weights a_gaps a_layouts a_values a_effects a_targets a_visible a_enabled a_on a_wishedPlaces a_wishedSizes a_shifts a_stack a_tree a_seen a_able a_places a_sizes a_clipStarts a_clipEnds a_eventKinds a_eventXs a_eventYs a_notes a_pixels (d + 1) s (nI i)) ∧ (∀ post : Int32 → Prop, post r → wY_screen_4 post g_many g_waiting f_noteCount f_over f_pressed f_focus g_acted a_there a_kinds (fun j => a_wishedPlaces (2 * j)) (fun j => a_wishedPlaces (2 * j + 1)) (fun j => a_wishedSizes (2 * j)) (fun j => a_wishedSizes (2 * j + 1)) a_colours a_layouts a_gaps a_weights (fun j => a_shifts (2 * j)) (fun j => a_shifts (2 * j + 1)) a_visible a_enabled a_on a_values a_parents a_effects a_targets b_kids b_kidCount b_left b_top b_width b_height b_order b_stack a_pixels b_events a_notes (d + 1) s (nI i)) := by
  intro d
  induction d with
  | zero =>
    intro i s hi
    have h : (512 : Int32) ≤ nI i := nI_le (a := 512) (by omega) (by omega)
    exact ⟨s, fun _ hp => br_t h hp, fun _ hp => br_t h hp⟩
  | succ d ih =>
    intro i s hi
    have h : ¬ (512 : Int32) ≤ nI i := nI_ge (b := 512) (by omega) (by omega)
    have v : vp_in (nI i) 512 := vp_in_nI (by omega) (by omega)
    obtain ⟨r, hX, hY⟩ := ih (i + 1) (s * 31 + a_pixels (nI i).toNatClampNeg) (by omega)
    exact ⟨r, fun post hp => br_f h ⟨v, nm_e (nm_r (nI_1 i) (hX post hp))⟩, fun post hp => br_f h ⟨v, nm_e (nm_r (nI_1 i) (hY post hp))⟩⟩
/-! X: which widget is at a pixel -/
theorem px_atp {post : Int32 → Prop} {w : Nat} {x y : Int32} {G : Nat → pd_V} (hw : w < 12) (hD : pd_DA G a_seen a_able a_places a_sizes a_clipStarts a_clipEnds w) (h1 : pd_sho (G w) x y → post 1) (h0 : ¬ pd_sho (G w) x y → post 0) : wpX_isAtPixel post (f_stacked, f_treeSize, f_over, f_pressed, f_focus, f_waiting, f_noteCount, a_there, a_parents, a_kinds, a_colours, a_weights, a_gaps, a_layouts, a_values, a_effects, a_targets, a_visible, a_enabled, a_on, a_wishedPlaces, a_wishedSizes, a_shifts, a_stack, a_tree, a_seen, a_able, a_places, a_sizes, a_clipStarts, a_clipEnds, a_eventKinds, a_eventXs, a_eventYs, a_notes, a_pixels) (nI w) x y := by
  have vw : vp_in (nI w) 12 := vp_in_nI hw (by omega)
  have cw : (nI w).toNatClampNeg = w := pd_cl (by omega)
  have v0 : vp_in (2 * nI w) 24 := by rw [pd_2]; exact vp_in_nI (by omega) (by omega)
  have c0 : (2 * nI w).toNatClampNeg = 2 * w + 0 := by rw [pd_2]; exact pd_cl (by omega)
  have v1 : vp_in (2 * nI w + 1) 24 := by rw [pd_21]; exact vp_in_nI (by omega) (by omega)
  have c1 : (2 * nI w + 1).toNatClampNeg = 2 * w + 1 := by rw [pd_21]; exact pd_cl (by omega)
  obtain ⟨hd, es, ea⟩ := hD
  obtain ⟨_, _, k1, k2⟩ := hd 0 (by omega)
  obtain ⟨_, _, k3, k4⟩ := hd 1 (by omega)
  refine ⟨vw, ?_⟩
  rw [cw, c0, c1, es, k1, k2, k3, k4]
  by_cases a : (G w).2.2.1 = 0
  · exact br_t a (h0 (fun z => z.1 a))
  · refine br_f a ⟨v0, ?_⟩
    by_cases b1 : x < (G w).2.2.2.2.1 0
    · exact br_t b1 (h0 (fun z => absurd b1 (Int32.not_lt.mpr z.2.1)))
    · refine br_f b1 ⟨v0, ?_⟩
      by_cases b2 : (G w).2.2.2.2.2 0 ≤ x
      · exact br_t b2 (h0 (fun z => absurd b2 (Int32.not_le.mpr z.2.2.1)))
      · refine br_f b2 ⟨v1, ?_⟩
        by_cases b3 : y < (G w).2.2.2.2.1 1
        · exact br_t b3 (h0 (fun z => absurd b3 (Int32.not_lt.mpr z.2.2.2.1)))
        · refine br_f b3 ⟨v1, ?_⟩
          by_cases b4 : (G w).2.2.2.2.2 1 ≤ y
          · exact br_t b4 (h0 (fun z => absurd b4 (Int32.not_le.mpr z.2.2.2.2)))
          · exact br_f b4 (h1 ⟨a, Int32.not_lt.mp b1, Int32.not_le.mp b2, Int32.not_lt.mp b3, Int32.not_le.mp b4⟩)
theorem px_wat5 {post : Int32 → Prop} {x y : Int32} {N : Nat} {L : List Nat} {G : Nat → pd_V} (hN : N ≤ 12) (hL : ∀ w, w ∈ L → 0 < w ∧ w < 12) (hD : ∀ w, (w = 0 ∨ w ∈ L) → pd_DA G a_seen a_able a_places a_sizes a_clipStarts a_clipEnds w) :
    ∀ (R : List Nat) (i n : Nat) (f : Int32), pd_sg a_tree i R → i + R.length = N → R.length < n → (∀ w, w ∈ R → w = 0 ∨ w ∈ L) → post (pd_fa G x y R f) →
    wX_widgetAt_5 post x y f_stacked (nI N) f_over f_pressed f_focus f_waiting f_noteCount a_there a_parents a_kinds a_colours a_weights a_gaps a_layouts a_values a_effects a_targets a_visible a_enabled a_on a_wishedPlaces a_wishedSizes a_shifts a_stack a_tree a_seen a_able a_places a_sizes a_clipStarts a_clipEnds a_eventKinds a_eventXs a_eventYs a_notes a_pixels n f (nI i) := by
  intro R
  induction R with
  | nil =>
    intro i n f _ hi hn _ h
    obtain ⟨n, rfl⟩ : ∃ m, n = m + 1 := ⟨n - 1, by omega⟩
    rw [wX_widgetAt_5]
    have hi' : i = N := hi
    exact br_t (by rw [hi']; exact Int32.le_refl _) h
  | cons w R ih =>
    intro i n f hs hi hn hR h
    obtain ⟨n, rfl⟩ : ∃ m, n = m + 1 := ⟨n - 1, by omega⟩
    rw [List.length_cons] at hi hn
    have hw := hR w (List.mem_cons_self ..)
    have hw12 := pd_12lt hL hw
    have es : a_tree (nI i).toNatClampNeg = nI w := by rw [pd_cl (by omega)]; exact hs.1
    have hR' : ∀ v, v ∈ R → v = 0 ∨ v ∈ L := fun v hv => hR v (List.mem_cons_of_mem _ hv)
    simp only [pd_fa] at h
    rw [wX_widgetAt_5]
    dsimp only
    rw [es]
    refine br_f (nI_ge (by omega) (by omega)) ⟨vp_in_nI (by omega) (by omega), px_atp (G := G) hw12 (hD w hw) (fun z => ?_) (fun z => ?_)⟩
    · rw [if_pos z] at h
      exact br_f (by decide) ⟨vp_in_nI (by omega) (by omega), nm_e (nm_r (nI_1 i) (ih (i + 1) n _ hs.2 (by omega) (by omega) hR' h))⟩
    · rw [if_neg z] at h
      exact br_t rfl (nm_r (nI_1 i) (ih (i + 1) n f hs.2 (by omega) (by omega) hR' h))
/-- X's derived arrays as a picture has them -/
def pd_DG (G : Nat → pd_V) (pa : Nat → Int32) (L : List Nat) (tn : Int32) (tr se ab pl sz cs ce : Nat → Int32) : Prop :=
  tn = nI (pd_ord pa L).length ∧ pd_sg tr 0 (pd_ord pa L) ∧ ∀ w, (w = 0 ∨ w ∈ L) → pd_DA G se ab pl sz cs ce w
theorem px_wat {post : Int32 → Prop} {x y : Int32} {L : List Nat} {rk : Nat → Nat} {G : Nat → pd_V} (H : pd_BI a_there a_parents L rk) (hD : pd_DG G a_parents L f_treeSize a_tree a_seen a_able a_places a_sizes a_clipStarts a_clipEnds)
    (h : post (pd_fa G x y (pd_ord a_parents L) (-1))) : wpX_widgetAt post (f_stacked, f_treeSize, f_over, f_pressed, f_focus, f_waiting, f_noteCount, a_there, a_parents, a_kinds, a_colours, a_weights, a_gaps, a_layouts, a_values, a_effects, a_targets, a_visible, a_enabled, a_on, a_wishedPlaces, a_wishedSizes, a_shifts, a_stack, a_tree, a_seen, a_able, a_places, a_sizes, a_clipStarts, a_clipEnds, a_eventKinds, a_eventXs, a_eventYs, a_notes, a_pixels) x y := by
  obtain ⟨rfl, hs, hd⟩ := hD
  have hl := pd_ordL H
  exact ⟨(pd_ord a_parents L).length + 1, px_wat5 (G := G) hl H.2.1 hd (pd_ord a_parents L) 0 _ (-1) hs (by omega) (by omega) (fun w hw => (pd_ordM H w).mp hw) h⟩
theorem py_look19 {post : Int32 → SY → Prop} {x y : Int32} {N : Nat} {L : List Nat} {rk : Nat → Nat} {G : Nat → pd_V} (H : pd_BI a_there a_parents L rk) (hG : pd_LE a_parents a_wishedPlaces a_wishedSizes a_shifts a_visible a_enabled a_layouts a_gaps a_weights L G) (hN : N ≤ 12) (hA : ∀ w, (w = 0 ∨ w ∈ L) → pd_YA G b_left b_top b_width b_height w) :
    ∀ (R : List Nat) (i n : Nat) (f : Int32), pd_sg b_order i R → i + R.length = N → R.length < n → (∀ w, w ∈ R → w = 0 ∨ w ∈ L) → post (pd_fa G x y R f) (nI N, g_waiting, f_noteCount, f_over, f_pressed, f_focus, g_acted, a_there, a_kinds, (fun j => a_wishedPlaces (2 * j)), (fun j => a_wishedPlaces (2 * j + 1)), (fun j => a_wishedSizes (2 * j)), (fun j => a_wishedSizes (2 * j + 1)), a_colours, a_layouts, a_gaps, a_weights, (fun j => a_shifts (2 * j)), (fun j => a_shifts (2 * j + 1)), a_visible, a_enabled, a_on, a_values, a_parents, a_effects, a_targets, b_kids, b_kidCount, b_left, b_top, b_width, b_height, b_order, b_stack, a_pixels, b_events, a_notes) →
    wY_lookAt_19 post x y (nI N) g_waiting f_noteCount f_over f_pressed f_focus g_acted a_there a_kinds (fun j => a_wishedPlaces (2 * j)) (fun j => a_wishedPlaces (2 * j + 1)) (fun j => a_wishedSizes (2 * j)) (fun j => a_wishedSizes (2 * j + 1)) a_colours a_layouts a_gaps a_weights (fun j => a_shifts (2 * j)) (fun j => a_shifts (2 * j + 1)) a_visible a_enabled a_on a_values a_parents a_effects a_targets b_kids b_kidCount b_left b_top b_width b_height b_order b_stack a_pixels b_events a_notes n f (nI i) := by
  intro R
  induction R with
  | nil =>
    intro i n f _ hi hn _ h
    obtain ⟨n, rfl⟩ : ∃ m, n = m + 1 := ⟨n - 1, by omega⟩
    rw [wY_lookAt_19]
    have hi' : i = N := hi
    exact br_t (by rw [hi']; exact Int32.le_refl _) h
  | cons w R ih =>
    intro i n f hs hi hn hR h
    obtain ⟨n, rfl⟩ : ∃ m, n = m + 1 := ⟨n - 1, by omega⟩
    rw [List.length_cons] at hi hn
    have hw := hR w (List.mem_cons_self ..)
    have es : b_order (nI i).toNatClampNeg = nI w := by rw [pd_cl (by omega)]; exact hs.1
    have hR' : ∀ v, v ∈ R → v = 0 ∨ v ∈ L := fun v hv => hR v (List.mem_cons_of_mem _ hv)
    simp only [pd_fa] at h
    rw [wY_lookAt_19]
    dsimp only
    rw [es]
    refine br_f (nI_ge (by omega) (by omega)) ⟨vp_in_nI (by omega) (by omega), py_shows (G := G) H hG hA w hw (fun z => ?_) (fun z => ?_)⟩
    · rw [if_pos z] at h
      exact br_f (by decide) ⟨vp_in_nI (by omega) (by omega), nm_e (nm_r (nI_1 i) (ih (i + 1) n _ hs.2 (by omega) (by omega) hR' h))⟩
    · rw [if_neg z] at h
      exact br_t rfl (nm_r (nI_1 i) (ih (i + 1) n f hs.2 (by omega) (by omega) hR' h))
theorem pd_wiS {x g : Int32} {n : Nat} (hg : g = nI n) (hn : n < 2 ^ 30) (h0 : 0 ≤ x) (h1 : x < nI (n + 1)) : pd_wi x 0 g = 1 := by
  obtain ⟨j, hj, rfl⟩ := nI_of (x := x) (Int32.not_lt.mpr h0)
  rw [nI_ltI hj (by omega)] at h1
  unfold pd_wi
  rw [if_neg (nI_pos hj), hg, if_neg (nI_nlt (by omega) (by omega))]
theorem py_look {post : Int32 → SY → Prop} {x y : Int32} {L : List Nat} {rk : Nat → Nat} {G : Nat → pd_V} (H : pd_BI a_there a_parents L rk) (hK : pd_KD a_parents b_kidCount b_kids L) (hV : pd_VA a_wishedPlaces a_wishedSizes a_weights a_layouts a_targets a_shifts)
    (hG : pd_LE a_parents a_wishedPlaces a_wishedSizes a_shifts a_visible a_enabled a_layouts a_gaps a_weights L G)
    (h : ∀ mn od st lf tp wd hg, post (pd_fa G x y (pd_ord a_parents L) (-1)) (mn, g_waiting, f_noteCount, f_over, f_pressed, f_focus, g_acted, a_there, a_kinds, (fun j => a_wishedPlaces (2 * j)), (fun j => a_wishedPlaces (2 * j + 1)), (fun j => a_wishedSizes (2 * j)), (fun j => a_wishedSizes (2 * j + 1)), a_colours, a_layouts, a_gaps, a_weights, (fun j => a_shifts (2 * j)), (fun j => a_shifts (2 * j + 1)), a_visible, a_enabled, a_on, a_values, a_parents, a_effects, a_targets, b_kids, b_kidCount, lf, tp, wd, hg, od, st, a_pixels, b_events, a_notes)) : wpY_lookAt post (g_many, g_waiting, f_noteCount, f_over, f_pressed, f_focus, g_acted, a_there, a_kinds, (fun j => a_wishedPlaces (2 * j)), (fun j => a_wishedPlaces (2 * j + 1)), (fun j => a_wishedSizes (2 * j)), (fun j => a_wishedSizes (2 * j + 1)), a_colours, a_layouts, a_gaps, a_weights, (fun j => a_shifts (2 * j)), (fun j => a_shifts (2 * j + 1)), a_visible, a_enabled, a_on, a_values, a_parents, a_effects, a_targets, b_kids, b_kidCount, b_left, b_top, b_width, b_height, b_order, b_stack, a_pixels, b_events, a_notes) x y := by
  have hl := pd_ordL H
  have main : wpY_rectangles (fun u => match u with | (g_many1, g_waiting1, g_noteCount1, g_over1, g_pressed1, g_focus1, g_acted1, b_there1, b_kind1, b_wishX1, b_wishY1, b_wishW1, b_wishH1, b_colour1, b_layout1, b_gap1, b_weight1, b_shiftX1, b_shiftY1, b_visible1, b_enabled1, b_on1, b_value1, b_parent1, b_effects1, b_targets1, b_kids1, b_kidCount1, b_left1, b_top1, b_width1, b_height1, b_order1, b_stack1, b_pixels1, b_events1, b_notes1) => ∃ n19 : Nat, wY_lookAt_19 post x y g_many1 g_waiting1 g_noteCount1 g_over1 g_pressed1 g_focus1 g_acted1 b_there1 b_kind1 b_wishX1 b_wishY1 b_wishW1 b_wishH1 b_colour1 b_layout1 b_gap1 b_weight1 b_shiftX1 b_shiftY1 b_visible1 b_enabled1 b_on1 b_value1 b_parent1 b_effects1 b_targets1 b_kids1 b_kidCount1 b_left1 b_top1 b_width1 b_height1 b_order1 b_stack1 b_pixels1 b_events1 b_notes1 n19 (-1) 0) (g_many, g_waiting, f_noteCount, f_over, f_pressed, f_focus, g_acted, a_there, a_kinds, (fun j => a_wishedPlaces (2 * j)), (fun j => a_wishedPlaces (2 * j + 1)), (fun j => a_wishedSizes (2 * j)), (fun j => a_wishedSizes (2 * j + 1)), a_colours, a_layouts, a_gaps, a_weights, (fun j => a_shifts (2 * j)), (fun j => a_shifts (2 * j + 1)), a_visible, a_enabled, a_on, a_values, a_parents, a_effects, a_targets, b_kids, b_kidCount, b_left, b_top, b_width, b_height, b_order, b_stack, a_pixels, b_events, a_notes) := by
    refine py_rect (G := G) H hK hV hG (fun mn od st lf tp wd hg hO => ?_)
    obtain ⟨rfl, ho, hA⟩ := hO
    exact ⟨(pd_ord a_parents L).length + 1, py_look19 (G := G) H hG hl hA (pd_ord a_parents L) 0 _ (-1) ho (by omega) (by omega) (fun w hw => (pd_ordM H w).mp hw) (h _ od st lf tp wd hg)⟩
  have off : (pd_wi x 0 31 = 0 ∨ pd_wi y 0 15 = 0) → post (-1) (g_many, g_waiting, f_noteCount, f_over, f_pressed, f_focus, g_acted, a_there, a_kinds, (fun j => a_wishedPlaces (2 * j)), (fun j => a_wishedPlaces (2 * j + 1)), (fun j => a_wishedSizes (2 * j)), (fun j => a_wishedSizes (2 * j + 1)), a_colours, a_layouts, a_gaps, a_weights, (fun j => a_shifts (2 * j)), (fun j => a_shifts (2 * j + 1)), a_visible, a_enabled, a_on, a_values, a_parents, a_effects, a_targets, b_kids, b_kidCount, b_left, b_top, b_width, b_height, b_order, b_stack, a_pixels, b_events, a_notes) := by
    intro c
    have e : pd_fa G x y (pd_ord a_parents L) (-1) = -1 := by
      refine pd_faN _ _ (fun w hw hs => ?_)
      obtain ⟨⟨v0, v1, v2, v3⟩, _⟩ := hV
      obtain ⟨⟨a1, a2⟩, a3, a4⟩ := pd_off H hG v0 v1 v2 v3 ((pd_ordM H w).mp hw) hs
      rcases c with c | c
      · rw [pd_wiS (g := 31) (n := 31) rfl (by omega) a1 a2] at c; exact absurd c (by decide)
      · rw [pd_wiS (g := 15) (n := 15) rfl (by omega) a3 a4] at c; exact absurd c (by decide)
    have k := h g_many b_order b_stack b_left b_top b_width b_height
    rw [e] at k
    exact k
  unfold wpY_lookAt wpY_isPixel
  refine py_wi ?_
  by_cases a : pd_wi x 0 31 = 0
  · exact br_t a (br_t rfl (off (Or.inl a)))
  · refine br_f a (py_wi ?_)
    by_cases b : pd_wi y 0 15 = 0
    · exact br_t b (br_t rfl (off (Or.inr b)))
    · exact br_f b (br_f (by decide) main)
theorem px_cc4 {post : Int32 → Prop} {p N : Nat} (hp : p < 12) (hN : N ≤ 12) :
    ∀ (R : List Nat) (i n m : Nat), pd_sg a_stack i R → i + R.length = N → R.length < n → (∀ c, c ∈ R → c < 12) → post (nI (m + (pd_kd a_parents R p).length)) →
    wX_countChildren_4 post (nI p) (nI N) f_treeSize f_over f_pressed f_focus f_waiting f_noteCount a_there a_parents a_kinds a_colours a_weights a_gaps a_layouts a_values a_effects a_targets a_visible a_enabled a_on a_wishedPlaces a_wishedSizes a_shifts a_stack a_tree a_seen a_able a_places a_sizes a_clipStarts a_clipEnds a_eventKinds a_eventXs a_eventYs a_notes a_pixels n (nI m) (nI i) := by
  intro R
  induction R with
  | nil =>
    intro i n m _ hi hn _ h
    obtain ⟨n, rfl⟩ : ∃ m, n = m + 1 := ⟨n - 1, by omega⟩
    rw [wX_countChildren_4]
    have hi' : i = N := hi
    exact br_t (by rw [hi']; exact Int32.le_refl _) h
  | cons c R ih =>
    intro i n m hs hi hn hc h
    obtain ⟨n, rfl⟩ : ∃ m, n = m + 1 := ⟨n - 1, by omega⟩
    rw [List.length_cons] at hi hn
    have hc12 : c < 12 := hc c (List.mem_cons_self ..)
    have es : a_stack (nI i).toNatClampNeg = nI c := by rw [pd_cl (by omega)]; exact hs.1
    have hcR : ∀ d, d ∈ R → d < 12 := fun d hd => hc d (List.mem_cons_of_mem _ hd)
    rw [wX_countChildren_4]
    dsimp only
    rw [es, pd_cl (n := c) (by omega)]
    refine br_f (nI_ge (by omega) (by omega)) ⟨vp_in_nI (by omega) (by omega), vp_in_nI hc12 (by omega), ?_⟩
    by_cases e : a_parents c = nI p
    · rw [pd_kdy e, List.length_cons] at h
      exact br_t e (nm_r (nI_1 m) (nm_r (nI_1 i) (ih (i + 1) n (m + 1) hs.2 (by omega) (by omega) hcR (by rw [show m + 1 + (pd_kd a_parents R p).length = m + ((pd_kd a_parents R p).length + 1) by omega]; exact h))))
    · rw [pd_kdn e] at h
      exact br_f e (nm_r (nI_1 i) (ih (i + 1) n m hs.2 (by omega) (by omega) hcR h))
end PDO
theorem i_vc_screen {k : Nat} {u : SX} {v : SY} (I : i_Rel k u v) (hk : k + 8 ≤ 4096) : wpX_screen (fun r => wpY_screen (fun r' => r' = r ∧ i_Rel (k + 8) u v) v) u := by
  have I' : i_Rel (k + 8) u v := I
  obtain ⟨L, rk, M, D⟩ := I
  obtain ⟨f_stacked, f_treeSize, f_over, f_pressed, f_focus, f_waiting, f_noteCount, a_there, a_parents, a_kinds, a_colours, a_weights, a_gaps, a_layouts, a_values, a_effects, a_targets, a_visible, a_enabled, a_on, a_wishedPlaces, a_wishedSizes, a_shifts, a_stack, a_tree, a_seen, a_able, a_places, a_sizes, a_clipStarts, a_clipEnds, a_eventKinds, a_eventXs, a_eventYs, a_notes, a_pixels⟩ := u
  obtain ⟨g_many, g_waiting, g_acted, b_kids, b_kidCount, b_left, b_top, b_width, b_height, b_order, b_stack, b_events, rfl, hB, hS, hK, hV, ho, hpr, hf, hq⟩ := M
  obtain ⟨r, hX, hY⟩ := pd_scr4 (f_stacked := f_stacked) (f_treeSize := f_treeSize) (f_over := f_over) (f_pressed := f_pressed) (f_focus := f_focus) (f_waiting := f_waiting) (f_noteCount := f_noteCount) (a_there := a_there) (a_parents := a_parents) (a_kinds := a_kinds) (a_colours := a_colours) (a_weights := a_weights) (a_gaps := a_gaps) (a_layouts := a_layouts) (a_values := a_values) (a_effects := a_effects) (a_targets := a_targets) (a_visible := a_visible) (a_enabled := a_enabled) (a_on := a_on) (a_wishedPlaces := a_wishedPlaces) (a_wishedSizes := a_wishedSizes) (a_shifts := a_shifts) (a_stack := a_stack) (a_tree := a_tree) (a_seen := a_seen) (a_able := a_able) (a_places := a_places) (a_sizes := a_sizes) (a_clipStarts := a_clipStarts) (a_clipEnds := a_clipEnds) (a_eventKinds := a_eventKinds) (a_eventXs := a_eventXs) (a_eventYs := a_eventYs) (a_notes := a_notes) (a_pixels := a_pixels) (g_many := g_many) (g_waiting := g_waiting) (g_acted := g_acted) (b_kids := b_kids) (b_kidCount := b_kidCount) (b_left := b_left) (b_top := b_top) (b_width := b_width) (b_height := b_height) (b_order := b_order) (b_stack := b_stack) (b_events := b_events) 512 0 0 rfl
  exact ⟨513, hX _ ⟨513, hY _ ⟨rfl, I'⟩⟩⟩
