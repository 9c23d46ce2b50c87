section PDU
variable {f_stacked f_treeSize f_over f_pressed f_focus f_waiting f_noteCount : Int32} {a_there a_parents a_kinds a_colours a_weights a_gaps a_layouts a_values a_effects a_targets a_visible a_enabled a_on a_wishedPlaces a_wishedSizes a_shifts a_stack a_tree a_seen a_able a_places a_sizes a_clipStarts a_clipEnds a_eventKinds a_eventXs a_eventYs a_notes a_pixels : Nat → Int32}
variable {g_many g_waiting g_acted : Int32} {b_kids b_kidCount b_left b_top b_width b_height b_order b_stack b_events : Nat → Int32}
/-! the drawing -/
theorem px_shade {post : Int32 → Prop} {w : Nat} {G : Nat → pd_V} (hw : w < 12) (ea : a_able w = (G w).2.2.2.1) (h : post (pd_shd a_kinds a_on a_colours f_pressed f_over G w)) : wpX_shadeOf post (f_stacked, f_treeSize, f_over, f_pressed, f_focus, f_waiting, f_noteCount, a_there, a_parents, a_kinds, a_colours, a_weights, a_gaps, a_layouts, a_values, a_effects, a_targets, a_visible, a_enabled, a_on, a_wishedPlaces, a_wishedSizes, a_shifts, a_stack, a_tree, a_seen, a_able, a_places, a_sizes, a_clipStarts, a_clipEnds, a_eventKinds, a_eventXs, a_eventYs, a_notes, a_pixels) (nI w) := by
  have vw : vp_in (nI w) 12 := vp_in_nI hw (by omega)
  have cw : (nI w).toNatClampNeg = w := pd_cl (by omega)
  have f79 : ∀ x2, x2 = (if (a_kinds w = 2 ∧ ¬ a_on w = 0) ∨ (a_kinds w = 1 ∧ f_pressed = nI w ∧ f_over = nI w) then a_colours w ^^^ 8 else a_colours w) → wX_shadeOf_79 post (nI w) x2 f_stacked f_treeSize f_over f_pressed f_focus f_waiting f_noteCount a_there a_parents a_kinds a_colours a_weights a_gaps a_layouts a_values a_effects a_targets a_visible a_enabled a_on a_wishedPlaces a_wishedSizes a_shifts a_stack a_tree a_seen a_able a_places a_sizes a_clipStarts a_clipEnds a_eventKinds a_eventXs a_eventYs a_notes a_pixels := by
    intro x2 e2
    unfold pd_shd at h
    rw [← e2] at h
    refine ⟨vw, ?_⟩
    rw [cw, ea]
    by_cases c : (G w).2.2.2.1 = 0
    · rw [if_pos c] at h; exact br_t c (nm_e h)
    · rw [if_neg c] at h; exact br_f c h
  have f74 : ((a_kinds w = 2 ∧ ¬ a_on w = 0) ∨ (a_kinds w = 1 ∧ f_pressed = nI w ∧ f_over = nI w)) → wX_shadeOf_74 post (nI w) (a_colours w) f_stacked f_treeSize f_over f_pressed f_focus f_waiting f_noteCount a_there a_parents a_kinds a_colours a_weights a_gaps a_layouts a_values a_effects a_targets a_visible a_enabled a_on a_wishedPlaces a_wishedSizes a_shifts a_stack a_tree a_seen a_able a_places a_sizes a_clipStarts a_clipEnds a_eventKinds a_eventXs a_eventYs a_notes a_pixels := fun c => nm_e (f79 _ (by rw [if_pos c]))
  have f31 : ∀ z0, (z0 = 1 ∧ (a_kinds w = 2 ∧ ¬ a_on w = 0)) ∨ (z0 = 0 ∧ ¬ (a_kinds w = 2 ∧ ¬ a_on w = 0)) → wX_shadeOf_31 post (nI w) (a_colours w) z0 f_stacked f_treeSize f_over f_pressed f_focus f_waiting f_noteCount a_there a_parents a_kinds a_colours a_weights a_gaps a_layouts a_values a_effects a_targets a_visible a_enabled a_on a_wishedPlaces a_wishedSizes a_shifts a_stack a_tree a_seen a_able a_places a_sizes a_clipStarts a_clipEnds a_eventKinds a_eventXs a_eventYs a_notes a_pixels := by
    intro z0 hz
    have f62 : ¬ (a_kinds w = 1 ∧ f_pressed = nI w ∧ f_over = nI w) → wX_shadeOf_62 post (nI w) (a_colours w) z0 f_stacked f_treeSize f_over f_pressed f_focus f_waiting f_noteCount a_there a_parents a_kinds a_colours a_weights a_gaps a_layouts a_values a_effects a_targets a_visible a_enabled a_on a_wishedPlaces a_wishedSizes a_shifts a_stack a_tree a_seen a_able a_places a_sizes a_clipStarts a_clipEnds a_eventKinds a_eventXs a_eventYs a_notes a_pixels := by
      intro hn
      rcases hz with ⟨e, c⟩ | ⟨e, c⟩
      · exact br_f (by rw [e]; decide) (f74 (Or.inl c))
      · exact br_t e (br_t rfl (f79 _ (by rw [if_neg (fun z => z.elim c hn)])))
    refine ⟨vw, ?_⟩
    rw [cw]
    by_cases k1 : a_kinds w = 1
    · refine br_t k1 ?_
      by_cases k2 : f_pressed = nI w
      · refine br_t k2 ?_
        by_cases k3 : f_over = nI w
        · refine br_t k3 ?_
          have t := f74 (Or.inr ⟨k1, k2, k3⟩)
          exact br_c (fun _ => br_f (by decide) t) (fun _ => t)
        · exact br_f k3 (f62 (fun z => k3 z.2.2))
      · exact br_f k2 (f62 (fun z => k2 z.2.1))
    · exact br_f k1 (f62 (fun z => k1 z.1))
  refine ⟨vw, nm_r (e' := a_colours w) (by rw [cw]) ⟨vw, ?_⟩⟩
  rw [cw]
  by_cases k2 : a_kinds w = 2
  · refine br_t k2 ⟨vw, ?_⟩
    by_cases k3 : a_on w = 0
    · exact br_t k3 (f31 0 (Or.inr ⟨rfl, fun z => z.2 k3⟩))
    · exact br_f k3 (f31 1 (Or.inl ⟨rfl, k2, k3⟩))
  · exact br_f k2 (f31 0 (Or.inr ⟨rfl, fun z => k2 z.1⟩))
theorem px_rim {post : Int32 → Prop} {w : Nat} {x y : Int32} {G : Nat → pd_V} (hw : w < 12) (hP : pd_PA G a_places a_sizes w) (h1 : pd_rim (G w) x y → post 1) (h0 : ¬ pd_rim (G w) x y → post 0) : wpX_isRim post (f_stacked, f_treeSize, f_over, f_pressed, f_focus, f_waiting, f_noteCount, a_there, a_parents, a_kinds, a_colours, a_weights, a_gaps, a_layouts, a_values, a_effects, a_targets, a_visible, a_enabled, a_on, a_wishedPlaces, a_wishedSizes, a_shifts, a_stack, a_tree, a_seen, a_able, a_places, a_sizes, a_clipStarts, a_clipEnds, a_eventKinds, a_eventXs, a_eventYs, a_notes, a_pixels) (nI w) x y := by
  have v0 : vp_in (2 * nI w) 24 := by rw [pd_2]; exact vp_in_nI (by omega) (by omega)
  have c0 : (2 * nI w).toNatClampNeg = 2 * w + 0 := by rw [pd_2]; exact pd_cl (by omega)
  have v1 : vp_in (2 * nI w + 1) 24 := by rw [pd_21]; exact vp_in_nI (by omega) (by omega)
  have c1 : (2 * nI w + 1).toNatClampNeg = 2 * w + 1 := by rw [pd_21]; exact pd_cl (by omega)
  obtain ⟨a1, a2⟩ := hP 0 (by omega)
  obtain ⟨a3, a4⟩ := hP 1 (by omega)
  refine ⟨v0, nm_r (e' := (G w).1 0) (by rw [c0, a1]) ⟨v1, nm_r (e' := (G w).1 1) (by rw [c1, a3]) ?_⟩⟩
  rw [c0, c1, a2, a4]
  by_cases b1 : x = (G w).1 0
  · exact br_t b1 (h1 (Or.inl b1))
  · by_cases b2 : x = (G w).1 0 + (G w).2.1 0 - 1
    · exact br_f b1 ⟨v0, br_t b2 (h1 (Or.inr (Or.inl b2)))⟩
    · by_cases b3 : y = (G w).1 1
      · exact br_f b1 ⟨v0, br_f b2 (br_t b3 (h1 (Or.inr (Or.inr (Or.inl b3)))))⟩
      · by_cases b4 : y = (G w).1 1 + (G w).2.1 1 - 1
        · exact br_f b1 ⟨v0, br_f b2 (br_f b3 ⟨v1, br_t b4 (h1 (Or.inr (Or.inr (Or.inr b4))))⟩)⟩
        · exact br_f b1 ⟨v0, br_f b2 (br_f b3 ⟨v1, br_f b4 (h0 (fun z => z.elim b1 (fun z => z.elim b2 (fun z => z.elim b3 b4))))⟩)⟩
theorem pd_1d (q : Nat) : (32 * (q / 32) + q % 32) = q := by omega
theorem px_dw41 {post : SX → Prop} {J : _} {w i s0 : Nat} {G : Nat → pd_V} {T p : Nat → Int32} (hw : w < 12) (hi : i < 16) (hD : pd_DA G a_seen a_able a_places a_sizes a_clipStarts a_clipEnds w) (hs : ¬ (G w).2.2.1 = 0)
    (hc0 : (G w).2.2.2.2.2 0 ≤ 32) (h1 : (G w).2.2.2.2.1 1 ≤ nI i) (h2 : nI i < (G w).2.2.2.2.2 1) (es0 : (G w).2.2.2.2.1 0 = nI s0) (hs0 : s0 < 2 ^ 31)
    (hT : ∀ q, T q = pd_px1 a_kinds a_on a_colours f_pressed f_over f_focus G w (nI (q % 32)) (nI (q / 32)) (p q))
    (hJ : J (nI (i + 1)) a_there a_parents a_kinds a_colours a_weights a_gaps a_layouts a_values a_effects a_targets a_visible a_enabled a_on a_wishedPlaces a_wishedSizes a_shifts a_stack a_tree a_seen a_able a_places a_sizes a_clipStarts a_clipEnds a_eventKinds a_eventXs a_eventYs a_notes (pd_A (fun q => pd_in (G w) (nI (q % 32)) (nI (q / 32))) T p (i + 1) s0)) :
    ∀ (m j n : Nat), 32 ≤ j + m → m < n → s0 ≤ j → j < 2 ^ 31 → wX_drawWidget_41 post J (nI w) (pd_shd a_kinds a_on a_colours f_pressed f_over G w) (nI i) f_stacked f_treeSize f_over f_pressed f_focus f_waiting f_noteCount n (nI j) a_there a_parents a_kinds a_colours a_weights a_gaps a_layouts a_values a_effects a_targets a_visible a_enabled a_on a_wishedPlaces a_wishedSizes a_shifts a_stack a_tree a_seen a_able a_places a_sizes a_clipStarts a_clipEnds a_eventKinds a_eventXs a_eventYs a_notes (pd_A (fun q => pd_in (G w) (nI (q % 32)) (nI (q / 32))) T p i j) := by
  have v0 : vp_in (2 * nI w) 24 := by rw [pd_2]; exact vp_in_nI (by omega) (by omega)
  have c0 : (2 * nI w).toNatClampNeg = 2 * w + 0 := by rw [pd_2]; exact pd_cl (by omega)
  have e0 : a_clipEnds (2 * w + 0) = (G w).2.2.2.2.2 0 := (hD.1 0 (by omega)).2.2.2
  have vw : vp_in (nI w) 12 := vp_in_nI hw (by omega)
  have cw : (nI w).toNatClampNeg = w := pd_cl (by omega)
  have hP : pd_PA G a_places a_sizes w := fun a ha => ⟨(hD.1 a ha).1, (hD.1 a ha).2.1⟩
  have exit : ∀ j n, j < 2 ^ 31 → (G w).2.2.2.2.2 0 ≤ nI j → wX_drawWidget_41 post J (nI w) (pd_shd a_kinds a_on a_colours f_pressed f_over G w) (nI i) f_stacked f_treeSize f_over f_pressed f_focus f_waiting f_noteCount (n + 1) (nI j) a_there a_parents a_kinds a_colours a_weights a_gaps a_layouts a_values a_effects a_targets a_visible a_enabled a_on a_wishedPlaces a_wishedSizes a_shifts a_stack a_tree a_seen a_able a_places a_sizes a_clipStarts a_clipEnds a_eventKinds a_eventXs a_eventYs a_notes (pd_A (fun q => pd_in (G w) (nI (q % 32)) (nI (q / 32))) T p i j) := by
    intro j n hj hx
    rw [wX_drawWidget_41]
    dsimp only
    rw [c0, e0]
    refine ⟨v0, br_t hx (nm_r (nI_1 i) ?_)⟩
    have e : pd_A (fun q => pd_in (G w) (nI (q % 32)) (nI (q / 32))) T p i j = pd_A (fun q => pd_in (G w) (nI (q % 32)) (nI (q / 32))) T p (i + 1) s0 := by
      refine pd_Ac _ (fun q hq hR => ?_)
      obtain ⟨r1, r2, r3, r4⟩ := hR
      have q1 : q % 32 < j := (nI_ltI (by omega) hj).mp (Int32.lt_of_lt_of_le r2 hx)
      have q2 : s0 ≤ q % 32 := (nI_leI hs0 (by omega)).mp (es0 ▸ r1)
      omega
    rw [e]
    exact hJ
  intro m
  induction m with
  | zero =>
    intro j n hm hn _ hj
    obtain ⟨n, rfl⟩ : ∃ k, n = k + 1 := ⟨n - 1, by omega⟩
    exact exit j n hj (Int32.le_trans hc0 (nI_le (a := 32) (by omega) hj))
  | succ m ih =>
    intro j n hm hn hsj hj
    obtain ⟨n, rfl⟩ : ∃ k, n = k + 1 := ⟨n - 1, by omega⟩
    by_cases hx : (G w).2.2.2.2.2 0 ≤ nI j
    · exact exit j n hj hx
    · have hlt := Int32.not_le.mp hx
      have hj32 : j < 32 := (nI_ltI (b := 32) hj (by omega)).mp (Int32.lt_of_lt_of_le hlt hc0)
      have eq1 : (32 * i + j) % 32 = j := by omega
      have eq2 : (32 * i + j) / 32 = i := by omega
      have hin : pd_in (G w) (nI j) (nI i) := ⟨by rw [es0]; exact nI_le hsj hj, hlt, h1, h2⟩
      have hR : (fun q => pd_in (G w) (nI (q % 32)) (nI (q / 32))) (32 * i + j) := by
        show pd_in (G w) (nI ((32 * i + j) % 32)) (nI ((32 * i + j) / 32))
        rw [eq1, eq2]; exact hin
      have hTq : T (32 * i + j) = (if f_focus = nI w ∧ pd_rim (G w) (nI j) (nI i) then 15 else if a_colours w = 0 then p (32 * i + j) else pd_shd a_kinds a_on a_colours f_pressed f_over G w) := by
        rw [hT, eq1, eq2]
        unfold pd_px1
        rw [if_pos ⟨hs, hin⟩]
      have k := ih (j + 1) n (by omega) (by omega) (by omega) (by omega)
      have e5 : 32 * nI i + nI j = nI (32 * i + j) := by rw [show (32 : Int32) = nI 32 from rfl, pd_mul, nI_add]
      have v5 : vp_in (32 * nI i + nI j) 512 := by rw [e5]; exact vp_in_nI (by omega) (by omega)
      have c5 : (32 * nI i + nI j).toNatClampNeg = 32 * i + j := by rw [e5]; exact pd_cl (by omega)
      have f90 : ¬ (f_focus = nI w ∧ pd_rim (G w) (nI j) (nI i)) → wX_drawWidget_90 post J (wX_drawWidget_41 post J (nI w) (pd_shd a_kinds a_on a_colours f_pressed f_over G w) (nI i) f_stacked f_treeSize f_over f_pressed f_focus f_waiting f_noteCount n) (nI w) (pd_shd a_kinds a_on a_colours f_pressed f_over G w) (nI i) (nI j) f_stacked f_treeSize f_over f_pressed f_focus f_waiting f_noteCount a_there a_parents a_kinds a_colours a_weights a_gaps a_layouts a_values a_effects a_targets a_visible a_enabled a_on a_wishedPlaces a_wishedSizes a_shifts a_stack a_tree a_seen a_able a_places a_sizes a_clipStarts a_clipEnds a_eventKinds a_eventXs a_eventYs a_notes (pd_A (fun q => pd_in (G w) (nI (q % 32)) (nI (q / 32))) T p i j) := by
        intro hn
        rw [if_neg hn] at hTq
        refine ⟨vw, ?_⟩
        rw [cw]
        by_cases cc : a_colours w = 0
        · rw [if_pos cc] at hTq
          refine br_t cc (nm_r (nI_1 j) ?_)
          rw [pd_A2 _ hi hj32 hTq]
          exact k
        · rw [if_neg cc] at hTq
          refine br_f cc ⟨v5, nm_r (e' := pd_A (fun q => pd_in (G w) (nI (q % 32)) (nI (q / 32))) T p i (j + 1)) ?_ (nm_r (nI_1 j) k)⟩
          rw [c5, ← pd_A1 _ hi hj32 hR, hTq]
      rw [wX_drawWidget_41]
      dsimp only
      rw [c0, e0]
      refine ⟨v0, br_f hx ?_⟩
      by_cases cf : f_focus = nI w
      · refine br_t cf (px_rim (G := G) hw hP (fun z => br_f (by decide) ⟨v5, nm_r (e' := pd_A (fun q => pd_in (G w) (nI (q % 32)) (nI (q / 32))) T p i (j + 1)) ?_ (nm_r (nI_1 j) k)⟩) (fun z => br_t rfl (f90 (fun y => z y.2))))
        rw [if_pos ⟨cf, z⟩] at hTq
        rw [c5, ← pd_A1 _ hi hj32 hR, hTq]
      · exact br_f cf (f90 (fun y => cf y.1))
theorem px_dw {post : SX → Prop} {w : Nat} {L : List Nat} {rk : Nat → Nat} {G : Nat → pd_V} (H : pd_BI a_there a_parents L rk) (hG : pd_LE a_parents a_wishedPlaces a_wishedSizes a_shifts a_visible a_enabled a_layouts a_gaps a_weights L G) (hV : pd_VA a_wishedPlaces a_wishedSizes a_weights a_layouts a_targets a_shifts) (hw : w = 0 ∨ w ∈ L)
    (hD : pd_DA G a_seen a_able a_places a_sizes a_clipStarts a_clipEnds w) (hs : ¬ (G w).2.2.1 = 0)
    (h : post (f_stacked, f_treeSize, f_over, f_pressed, f_focus, f_waiting, f_noteCount, a_there, a_parents, a_kinds, a_colours, a_weights, a_gaps, a_layouts, a_values, a_effects, a_targets, a_visible, a_enabled, a_on, a_wishedPlaces, a_wishedSizes, a_shifts, a_stack, a_tree, a_seen, a_able, a_places, a_sizes, a_clipStarts, a_clipEnds, a_eventKinds, a_eventXs, a_eventYs, a_notes, (fun q => if q < 512 then pd_px1 a_kinds a_on a_colours f_pressed f_over f_focus G w (nI (q % 32)) (nI (q / 32)) (a_pixels q) else a_pixels q))) : wpX_drawWidget post (f_stacked, f_treeSize, f_over, f_pressed, f_focus, f_waiting, f_noteCount, a_there, a_parents, a_kinds, a_colours, a_weights, a_gaps, a_layouts, a_values, a_effects, a_targets, a_visible, a_enabled, a_on, a_wishedPlaces, a_wishedSizes, a_shifts, a_stack, a_tree, a_seen, a_able, a_places, a_sizes, a_clipStarts, a_clipEnds, a_eventKinds, a_eventXs, a_eventYs, a_notes, a_pixels) (nI w) := by
  have hw12 := pd_12lt H.2.1 hw
  obtain ⟨⟨z0, z1, z2, z3⟩, _⟩ := hV
  obtain ⟨g1, g2⟩ := pd_LEc H hG 0 0 32 z0 (by rw [z0, z2]; decide) w hw
  obtain ⟨g3, g4⟩ := pd_LEc H hG 1 0 16 z1 (by rw [z1, z3]; decide) w hw
  obtain ⟨s0, hs0, es0⟩ := nI_of (Int32.not_lt.mpr g1)
  obtain ⟨s1, hs1, es1⟩ := nI_of (Int32.not_lt.mpr g3)
  have v0 : vp_in (2 * nI w) 24 := by rw [pd_2]; exact vp_in_nI (by omega) (by omega)
  have c0 : (2 * nI w).toNatClampNeg = 2 * w + 0 := by rw [pd_2]; exact pd_cl (by omega)
  have v1 : vp_in (2 * nI w + 1) 24 := by rw [pd_21]; exact vp_in_nI (by omega) (by omega)
  have c1 : (2 * nI w + 1).toNatClampNeg = 2 * w + 1 := by rw [pd_21]; exact pd_cl (by omega)
  have k0 := (hD.1 0 (by omega)).2.2.1
  have k1 := (hD.1 1 (by omega)).2.2
  have T0 : ∀ q, (fun q => pd_px1 a_kinds a_on a_colours f_pressed f_over f_focus G w (nI (q % 32)) (nI (q / 32)) (a_pixels q)) q = pd_px1 a_kinds a_on a_colours f_pressed f_over f_focus G w (nI (q % 32)) (nI (q / 32)) (a_pixels q) := fun q => rfl
  have out : ∀ (m i n : Nat), 16 ≤ i + m → m < n → s1 ≤ i → i < 2 ^ 31 → wX_drawWidget_17 post (nI w) (pd_shd a_kinds a_on a_colours f_pressed f_over G w) f_stacked f_treeSize f_over f_pressed f_focus f_waiting f_noteCount n (nI i) a_there a_parents a_kinds a_colours a_weights a_gaps a_layouts a_values a_effects a_targets a_visible a_enabled a_on a_wishedPlaces a_wishedSizes a_shifts a_stack a_tree a_seen a_able a_places a_sizes a_clipStarts a_clipEnds a_eventKinds a_eventXs a_eventYs a_notes (pd_A (fun q => pd_in (G w) (nI (q % 32)) (nI (q / 32))) (fun q => pd_px1 a_kinds a_on a_colours f_pressed f_over f_focus G w (nI (q % 32)) (nI (q / 32)) (a_pixels q)) a_pixels i s0) := by
    have exit : ∀ i n, i < 2 ^ 31 → (G w).2.2.2.2.2 1 ≤ nI i → wX_drawWidget_17 post (nI w) (pd_shd a_kinds a_on a_colours f_pressed f_over G w) f_stacked f_treeSize f_over f_pressed f_focus f_waiting f_noteCount (n + 1) (nI i) a_there a_parents a_kinds a_colours a_weights a_gaps a_layouts a_values a_effects a_targets a_visible a_enabled a_on a_wishedPlaces a_wishedSizes a_shifts a_stack a_tree a_seen a_able a_places a_sizes a_clipStarts a_clipEnds a_eventKinds a_eventXs a_eventYs a_notes (pd_A (fun q => pd_in (G w) (nI (q % 32)) (nI (q / 32))) (fun q => pd_px1 a_kinds a_on a_colours f_pressed f_over f_focus G w (nI (q % 32)) (nI (q / 32)) (a_pixels q)) a_pixels i s0) := by
      intro i n hi hx
      rw [wX_drawWidget_17]
      dsimp only
      rw [c1, k1.2]
      refine ⟨v1, br_t hx ?_⟩
      have e9 := pd_A9 (fun q => pd_in (G w) (nI (q % 32)) (nI (q / 32))) (T := fun q => pd_px1 a_kinds a_on a_colours f_pressed f_over f_focus G w (nI (q % 32)) (nI (q / 32)) (a_pixels q)) (p := a_pixels) (i := i) (j := s0) (fun q hq hR => (nI_ltI (by omega) hi).mp (Int32.lt_of_lt_of_le hR.2.2.2 hx)) (fun q hq hR => by
        show pd_px1 a_kinds a_on a_colours f_pressed f_over f_focus G w (nI (q % 32)) (nI (q / 32)) (a_pixels q) = a_pixels q
        unfold pd_px1
        exact if_neg (fun y => hR y.2))
      rw [e9]
      exact h
    intro m
    induction m with
    | zero =>
      intro i n hm hn _ hi
      obtain ⟨n, rfl⟩ : ∃ k, n = k + 1 := ⟨n - 1, by omega⟩
      exact exit i n hi (Int32.le_trans g4 (nI_le (a := 16) (by omega) hi))
    | succ m ih =>
      intro i n hm hn hsi hi
      obtain ⟨n, rfl⟩ : ∃ k, n = k + 1 := ⟨n - 1, by omega⟩
      by_cases hx : (G w).2.2.2.2.2 1 ≤ nI i
      · exact exit i n hi hx
      · have hlt := Int32.not_le.mp hx
        have hi16 : i < 16 := (nI_ltI (b := 16) hi (by omega)).mp (Int32.lt_of_lt_of_le hlt g4)
        rw [wX_drawWidget_17]
        dsimp only
        rw [c1, k1.2]
        refine ⟨v1, br_f hx ⟨v0, nm_r (e' := nI s0) (by rw [c0, k0, es0]) ⟨33, ?_⟩⟩⟩
        exact px_dw41 (G := G) hw12 hi16 hD hs g2 (by rw [es1]; exact nI_le hsi hi) hlt es0 hs0 T0 (ih (i + 1) n (by omega) (by omega) (by omega) (by omega)) 32 s0 33 (by omega) (by omega) (Nat.le_refl _) hs0
  unfold wpX_drawWidget
  refine px_shade (G := G) hw12 hD.2.2 ⟨v1, nm_r (e' := nI s1) (by rw [c1, k1.1, es1]) ⟨17, ?_⟩⟩
  have k := out 16 s1 17 (by omega) (by omega) (Nat.le_refl _) hs1
  have e0 := pd_A0 (fun q => pd_in (G w) (nI (q % 32)) (nI (q / 32))) (T := fun q => pd_px1 a_kinds a_on a_colours f_pressed f_over f_focus G w (nI (q % 32)) (nI (q / 32)) (a_pixels q)) (p := a_pixels) (i := s1) (j := s0) (fun q hq hR => ⟨(nI_leI hs1 (by omega)).mp (es1 ▸ hR.2.2.1), (nI_leI hs0 (by omega)).mp (es0 ▸ hR.1)⟩)
  rw [e0] at k
  exact k
end PDU
