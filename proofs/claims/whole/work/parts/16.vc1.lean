theorem pd_wi_lo {x l g : Int32} (h : x < l) : pd_wi x l g = 0 := if_pos h
theorem pd_wi_hi {x l g : Int32} (h : ¬ x < l) (h2 : g < x) : pd_wi x l g = 0 := by unfold pd_wi; rw [if_neg h, if_pos h2]
theorem pd_wi_in {x l g : Int32} (h : ¬ x < l) (h2 : ¬ g < x) : ¬ pd_wi x l g = 0 := by unfold pd_wi; rw [if_neg h, if_neg h2]; decide
theorem i_vc_at {k : Nat} {u : SX} {v : SY} (I : i_Rel k u v) (hk : k + 8 ≤ 4096) (v1 : Int32) (v2 : Int32) : wpX_at (fun r => wpY_at (fun r' v' => r' = r ∧ i_Rel (k + 8) u v') v v1 v2) u v1 v2 := by
  obtain ⟨L, rk, M, D⟩ := I
  obtain ⟨f_stacked, f_treeSize, f_over, f_pressed, f_focus, f_waiting, f_noteCount, a_there, a_parents, a_kinds, a_colours, a_weights, a_gaps, a_layouts, a_values, a_effects, a_targets, a_visible, a_enabled, a_on, a_wishedPlaces, a_wishedSizes, a_shifts, a_stack, a_tree, a_seen, a_able, a_places, a_sizes, a_clipStarts, a_clipEnds, a_eventKinds, a_eventXs, a_eventYs, a_notes, a_pixels⟩ := u
  obtain ⟨g_many, g_waiting, g_acted, b_kids, b_kidCount, b_left, b_top, b_width, b_height, b_order, b_stack, b_events, rfl, hB, hS, hK, hV, ho, hpr, hf, hq⟩ := M
  obtain ⟨G, hG, hD⟩ := D
  have D' : pd_DX L (f_stacked, f_treeSize, f_over, f_pressed, f_focus, f_waiting, f_noteCount, a_there, a_parents, a_kinds, a_colours, a_weights, a_gaps, a_layouts, a_values, a_effects, a_targets, a_visible, a_enabled, a_on, a_wishedPlaces, a_wishedSizes, a_shifts, a_stack, a_tree, a_seen, a_able, a_places, a_sizes, a_clipStarts, a_clipEnds, a_eventKinds, a_eventXs, a_eventYs, a_notes, a_pixels) := ⟨G, hG, hD⟩
  have mk : ∀ mn od st lf tp wd hg, i_Rel (k + 8) (f_stacked, f_treeSize, f_over, f_pressed, f_focus, f_waiting, f_noteCount, a_there, a_parents, a_kinds, a_colours, a_weights, a_gaps, a_layouts, a_values, a_effects, a_targets, a_visible, a_enabled, a_on, a_wishedPlaces, a_wishedSizes, a_shifts, a_stack, a_tree, a_seen, a_able, a_places, a_sizes, a_clipStarts, a_clipEnds, a_eventKinds, a_eventXs, a_eventYs, a_notes, a_pixels) (mn, g_waiting, f_noteCount, f_over, f_pressed, f_focus, g_acted, a_there, a_kinds, (fun j => a_wishedPlaces (2 * j)), (fun j => a_wishedPlaces (2 * j + 1)), (fun j => a_wishedSizes (2 * j)), (fun j => a_wishedSizes (2 * j + 1)), a_colours, a_layouts, a_gaps, a_weights, (fun j => a_shifts (2 * j)), (fun j => a_shifts (2 * j + 1)), a_visible, a_enabled, a_on, a_values, a_parents, a_effects, a_targets, b_kids, b_kidCount, lf, tp, wd, hg, od, st, a_pixels, b_events, a_notes) := fun mn od st lf tp wd hg =>
    ⟨L, rk, ⟨mn, g_waiting, g_acted, b_kids, b_kidCount, lf, tp, wd, hg, od, st, b_events, rfl, hB, hS, hK, hV, ho, hpr, hf, hq⟩, D'⟩
  unfold wpX_at
  refine px_wat (G := G) hB hD ?_
  by_cases e : pd_fa G v1 v2 (pd_ord a_parents L) (-1) = -1
  · refine br_t e ?_
    unfold wpY_at
    exact py_look (G := G) hB hK hV hG (fun mn od st lf tp wd hg => ⟨e, mk mn od st lf tp wd hg⟩)
  · refine br_f e ?_
    unfold wpY_at
    exact py_look (G := G) hB hK hV hG (fun mn od st lf tp wd hg => ⟨rfl, mk mn od st lf tp wd hg⟩)
theorem i_vc_rectangle {k : Nat} {u : SX} {v : SY} (I : i_Rel k u v) (hk : k + 8 ≤ 4096) (v1 : Int32) (v2 : Int32) : wpX_rectangle (fun r => wpY_rectangle (fun r' v' => r' = r ∧ i_Rel (k + 8) u v') v v1 v2) u v1 v2 := by
  have I' : i_Rel (k + 8) u v := I
  obtain ⟨L, rk, M, D⟩ := I
  obtain ⟨f_stacked, f_treeSize, f_over, f_pressed, f_focus, f_waiting, f_noteCount, a_there, a_parents, a_kinds, a_colours, a_weights, a_gaps, a_layouts, a_values, a_effects, a_targets, a_visible, a_enabled, a_on, a_wishedPlaces, a_wishedSizes, a_shifts, a_stack, a_tree, a_seen, a_able, a_places, a_sizes, a_clipStarts, a_clipEnds, a_eventKinds, a_eventXs, a_eventYs, a_notes, a_pixels⟩ := u
  obtain ⟨g_many, g_waiting, g_acted, b_kids, b_kidCount, b_left, b_top, b_width, b_height, b_order, b_stack, b_events, rfl, hB, hS, hK, hV, ho, hpr, hf, hq⟩ := M
  obtain ⟨G, hG, hD⟩ := D
  have D' : pd_DX L (f_stacked, f_treeSize, f_over, f_pressed, f_focus, f_waiting, f_noteCount, a_there, a_parents, a_kinds, a_colours, a_weights, a_gaps, a_layouts, a_values, a_effects, a_targets, a_visible, a_enabled, a_on, a_wishedPlaces, a_wishedSizes, a_shifts, a_stack, a_tree, a_seen, a_able, a_places, a_sizes, a_clipStarts, a_clipEnds, a_eventKinds, a_eventXs, a_eventYs, a_notes, a_pixels) := ⟨G, hG, hD⟩
  have mk : ∀ mn od st lf tp wd hg, i_Rel (k + 8) (f_stacked, f_treeSize, f_over, f_pressed, f_focus, f_waiting, f_noteCount, a_there, a_parents, a_kinds, a_colours, a_weights, a_gaps, a_layouts, a_values, a_effects, a_targets, a_visible, a_enabled, a_on, a_wishedPlaces, a_wishedSizes, a_shifts, a_stack, a_tree, a_seen, a_able, a_places, a_sizes, a_clipStarts, a_clipEnds, a_eventKinds, a_eventXs, a_eventYs, a_notes, a_pixels) (mn, g_waiting, f_noteCount, f_over, f_pressed, f_focus, g_acted, a_there, a_kinds, (fun j => a_wishedPlaces (2 * j)), (fun j => a_wishedPlaces (2 * j + 1)), (fun j => a_wishedSizes (2 * j)), (fun j => a_wishedSizes (2 * j + 1)), a_colours, a_layouts, a_gaps, a_weights, (fun j => a_shifts (2 * j)), (fun j => a_shifts (2 * j + 1)), a_visible, a_enabled, a_on, a_values, a_parents, a_effects, a_targets, b_kids, b_kidCount, lf, tp, wd, hg, od, st, a_pixels, b_events, a_notes) := fun mn od st lf tp wd hg =>
    ⟨L, rk, ⟨mn, g_waiting, g_acted, b_kids, b_kidCount, lf, tp, wd, hg, od, st, b_events, rfl, hB, hS, hK, hV, ho, hpr, hf, hq⟩, D'⟩
  unfold wpX_rectangle
  refine px_is ?_
  by_cases c1 : pd_is a_there v1 = 0
  · refine br_t c1 ?_
    unfold wpY_rectangle
    exact py_is (br_t c1 ⟨rfl, I'⟩)
  · obtain ⟨w, hw, rfl, ht⟩ := pd_is1 c1
    have hwL := (hB.2.2.1 w hw).mp ht
    obtain ⟨hd, _⟩ := hD.2.2 w hwL
    have vw : vp_in (nI w) 12 := vp_in_nI hw (by omega)
    have cw : (nI w).toNatClampNeg = w := pd_cl (by omega)
    refine br_f c1 ?_
    by_cases a : v2 < 0
    · refine br_t a ?_
      unfold wpY_rectangle
      exact py_is (br_f c1 (py_wi (br_t (pd_wi_lo a) ⟨rfl, I'⟩)))
    · by_cases b : 3 < v2
      · refine br_f a (br_t b ?_)
        unfold wpY_rectangle
        exact py_is (br_f c1 (py_wi (br_t (pd_wi_hi a b) ⟨rfl, I'⟩)))
      · have cin := pd_wi_in a b
        obtain ⟨j, hj, rfl⟩ := nI_of2 (n := 3) (M := 3) (by decide) a (Int32.not_lt.mp b)
        refine br_f a (br_f b ?_)
        have hz : j = 0 ∨ j = 1 ∨ j = 2 ∨ j = 3 := by omega
        rcases hz with rfl | rfl | rfl | rfl
        · obtain ⟨vI, cI⟩ := px_ix hw (a := 0) (by omega)
          refine br_t (by decide) ⟨vI, ?_⟩
          rw [cI, (hd 0 (by omega)).1]
          unfold wpY_rectangle
          refine py_is (br_f c1 (py_wi (br_f cin (py_rect (G := G) hB hK hV hG (fun mn od st lf tp wd hg hO => br_t (by decide) ⟨vw, ?_, mk mn od st lf tp wd hg⟩)))))
          rw [cw]; exact (hO.2.2 w hwL).1
        · obtain ⟨vI, cI⟩ := px_ix hw (a := 1) (by omega)
          refine br_f (by decide) (br_t (by decide) ⟨vI, ?_⟩)
          rw [cI, (hd 1 (by omega)).1]
          unfold wpY_rectangle
          refine py_is (br_f c1 (py_wi (br_f cin (py_rect (G := G) hB hK hV hG (fun mn od st lf tp wd hg hO => br_f (by decide) (br_t (by decide) ⟨vw, ?_, mk mn od st lf tp wd hg⟩))))))
          rw [cw]; exact (hO.2.2 w hwL).2.1
        · have e2 : 2 * nI w + nI 2 - 2 = nI (2 * w + 0) := by rw [pd_22]; exact pd_sub (a := 2 * w + 2) (b := 2) (by omega)
          refine br_f (by decide) (br_f (by decide) (br_t (by decide) ⟨by rw [e2]; exact vp_in_nI (by omega) (by omega), ?_⟩))
          rw [e2, pd_cl (by omega), (hd 0 (by omega)).2.1]
          unfold wpY_rectangle
          refine py_is (br_f c1 (py_wi (br_f cin (py_rect (G := G) hB hK hV hG (fun mn od st lf tp wd hg hO => br_f (by decide) (br_f (by decide) (br_t (by decide) ⟨vw, ?_, mk mn od st lf tp wd hg⟩)))))))
          rw [cw]; exact (hO.2.2 w hwL).2.2.1
        · have e2 : 2 * nI w + nI 3 - 2 = nI (2 * w + 1) := by rw [pd_22]; exact pd_sub (a := 2 * w + 3) (b := 2) (by omega)
          refine br_f (by decide) (br_f (by decide) (br_f (by decide) (br_t (by decide) ⟨by rw [e2]; exact vp_in_nI (by omega) (by omega), ?_⟩)))
          rw [e2, pd_cl (by omega), (hd 1 (by omega)).2.1]
          unfold wpY_rectangle
          refine py_is (br_f c1 (py_wi (br_f cin (py_rect (G := G) hB hK hV hG (fun mn od st lf tp wd hg hO => br_f (by decide) (br_f (by decide) (br_f (by decide) ⟨vw, ?_, mk mn od st lf tp wd hg⟩)))))))
          rw [cw]; exact (hO.2.2 w hwL).2.2.2
theorem i_vc_state {k : Nat} {u : SX} {v : SY} (I : i_Rel k u v) (hk : k + 8 ≤ 4096) (v1 : Int32) (v2 : Int32) : wpX_state (fun r => wpY_state (fun r' => r' = r ∧ i_Rel (k + 8) u v) v v1 v2) u v1 v2 := by
  have I' : i_Rel (k + 8) u v := I
  obtain ⟨L, rk, M, D⟩ := I
  obtain ⟨f_stacked, f_treeSize, f_over, f_pressed, f_focus, f_waiting, f_noteCount, a_there, a_parents, a_kinds, a_colours, a_weights, a_gaps, a_layouts, a_values, a_effects, a_targets, a_visible, a_enabled, a_on, a_wishedPlaces, a_wishedSizes, a_shifts, a_stack, a_tree, a_seen, a_able, a_places, a_sizes, a_clipStarts, a_clipEnds, a_eventKinds, a_eventXs, a_eventYs, a_notes, a_pixels⟩ := u
  obtain ⟨g_many, g_waiting, g_acted, b_kids, b_kidCount, b_left, b_top, b_width, b_height, b_order, b_stack, b_events, rfl, hB, hS, hK, hV, ho, hpr, hf, hq⟩ := M
  obtain ⟨G, hG, hD⟩ := D
  unfold wpX_state
  refine px_is ?_
  by_cases c1 : pd_is a_there v1 = 0
  · refine br_t c1 ?_
    unfold wpY_state
    exact py_is (br_t c1 ⟨rfl, I'⟩)
  · obtain ⟨w, hw, rfl, ht⟩ := pd_is1 c1
    have hwL := (hB.2.2.1 w hw).mp ht
    obtain ⟨_, es, ea⟩ := hD.2.2 w hwL
    have vw : vp_in (nI w) 12 := vp_in_nI hw (by omega)
    have cw : (nI w).toNatClampNeg = w := pd_cl (by omega)
    refine br_f c1 ?_
    by_cases a : v2 < 0
    · refine br_t a ?_
      unfold wpY_state
      exact py_is (br_f c1 (py_wi (br_t (pd_wi_lo a) ⟨rfl, I'⟩)))
    · by_cases b : 5 < v2
      · refine br_f a (br_t b ?_)
        unfold wpY_state
        exact py_is (br_f c1 (py_wi (br_t (pd_wi_hi a b) ⟨rfl, I'⟩)))
      · have cin := pd_wi_in a b
        obtain ⟨j, hj, rfl⟩ := nI_of2 (n := 5) (M := 5) (by decide) a (Int32.not_lt.mp b)
        refine br_f a (br_f b ?_)
        have hz : j = 0 ∨ j = 1 ∨ j = 2 ∨ j = 3 ∨ j = 4 ∨ j = 5 := by omega
        rcases hz with rfl | rfl | rfl | rfl | rfl | rfl
        · refine br_t (by decide) ⟨vw, ?_⟩
          unfold wpY_state
          exact py_is (br_f c1 (py_wi (br_f cin (br_t (by decide) ⟨vw, rfl, I'⟩))))
        · refine br_f (by decide) (br_t (by decide) ⟨vw, ?_⟩)
          by_cases c : a_on (nI w).toNatClampNeg = 0
          · refine br_t c ?_
            unfold wpY_state
            exact py_is (br_f c1 (py_wi (br_f cin (br_f (by decide) (br_t (by decide) (br_t (by decide) ⟨vw, br_t c ⟨rfl, I'⟩⟩))))))
          · refine br_f c ?_
            unfold wpY_state
            exact py_is (br_f c1 (py_wi (br_f cin (br_f (by decide) (br_t (by decide) (br_t (by decide) ⟨vw, br_f c ⟨rfl, I'⟩⟩))))))
        · refine br_f (by decide) (br_f (by decide) (br_t (by decide) ⟨vw, ?_⟩))
          rw [cw, es]
          by_cases c : (G w).2.2.1 = 0
          · refine br_t c ?_
            unfold wpY_state
            exact py_is (br_f c1 (py_wi (br_f cin (br_f (by decide) (br_t (by decide) (br_f (by decide) (br_t (by decide) (py_seen (G := G) hB hG w hwL (fun z => absurd c z) (fun _ => br_t rfl ⟨rfl, I'⟩)))))))))
          · refine br_f c ?_
            unfold wpY_state
            exact py_is (br_f c1 (py_wi (br_f cin (br_f (by decide) (br_t (by decide) (br_f (by decide) (br_t (by decide) (py_seen (G := G) hB hG w hwL (fun _ => br_f (by decide) ⟨rfl, I'⟩) (fun z => absurd z c)))))))))
        · refine br_f (by decide) (br_f (by decide) (br_f (by decide) (br_t (by decide) ⟨vw, ?_⟩)))
          rw [cw, ea]
          by_cases c : (G w).2.2.2.1 = 0
          · refine br_t c ?_
            unfold wpY_state
            exact py_is (br_f c1 (py_wi (br_f cin (br_f (by decide) (br_t (by decide) (br_f (by decide) (br_f (by decide) (py_able (G := G) hB hG w hwL (fun z => absurd c z) (fun _ => br_t rfl ⟨rfl, I'⟩)))))))))
          · refine br_f c ?_
            unfold wpY_state
            exact py_is (br_f c1 (py_wi (br_f cin (br_f (by decide) (br_t (by decide) (br_f (by decide) (br_f (by decide) (py_able (G := G) hB hG w hwL (fun _ => br_f (by decide) ⟨rfl, I'⟩) (fun z => absurd z c)))))))))
        · refine br_f (by decide) (br_f (by decide) (br_f (by decide) (br_f (by decide) (br_t (by decide) ⟨vw, ?_⟩))))
          unfold wpY_state
          exact py_is (br_f c1 (py_wi (br_f cin (br_f (by decide) (br_f (by decide) (br_t (by decide) ⟨vw, rfl, I'⟩))))))
        · obtain ⟨rfl, hs⟩ := hS
          have hL := pd_len11 hB.1 hB.2.1
          refine br_f (by decide) (br_f (by decide) (br_f (by decide) (br_f (by decide) (br_f (by decide) (br_t (by decide) ⟨L.length + 1, px_cc4 hw (N := L.length) (by omega) L 0 (L.length + 1) 0 hs (by omega) (by omega) (fun c hc => (hB.2.1 c hc).2) ?_⟩)))))
          unfold wpY_state
          refine py_is (br_f c1 (py_wi (br_f cin (br_f (by decide) (br_f (by decide) (br_f (by decide) ⟨vw, ?_, I'⟩))))))
          rw [cw, Nat.zero_add]; exact (hK w hwL).1
theorem i_vc_effect {k : Nat} {u : SX} {v : SY} (I : i_Rel k u v) (hk : k + 8 ≤ 4096) (v1 : Int32) (v2 : Int32) (v3 : Int32) : wpX_effect (fun r u' => wpY_effect (fun r' v' => r' = r ∧ i_Rel (k + 8) u' v') v v1 v2 v3) u v1 v2 v3 := by
  have I' : i_Rel (k + 8) u v := I
  obtain ⟨L, rk, M, D⟩ := I
  obtain ⟨f_stacked, f_treeSize, f_over, f_pressed, f_focus, f_waiting, f_noteCount, a_there, a_parents, a_kinds, a_colours, a_weights, a_gaps, a_layouts, a_values, a_effects, a_targets, a_visible, a_enabled, a_on, a_wishedPlaces, a_wishedSizes, a_shifts, a_stack, a_tree, a_seen, a_able, a_places, a_sizes, a_clipStarts, a_clipEnds, a_eventKinds, a_eventXs, a_eventYs, a_notes, a_pixels⟩ := u
  obtain ⟨g_many, g_waiting, g_acted, b_kids, b_kidCount, b_left, b_top, b_width, b_height, b_order, b_stack, b_events, rfl, hB, hS, hK, hV, ho, hpr, hf, hq⟩ := M
  have D0 : pd_DE a_parents a_wishedPlaces a_wishedSizes a_shifts a_visible a_enabled a_layouts a_gaps a_weights L f_treeSize a_tree a_seen a_able a_places a_sizes a_clipStarts a_clipEnds := D
  unfold wpX_effect
  refine px_is ?_
  by_cases c1 : pd_is a_there v1 = 0
  · refine br_t c1 ?_
    unfold wpY_effect
    exact py_is (br_t c1 ⟨rfl, I'⟩)
  · refine br_f c1 (px_wi ?_)
    by_cases c2 : pd_wi v2 0 6 = 0
    · refine br_t c2 ?_
      unfold wpY_effect
      exact py_is (br_f c1 (py_wi (br_t c2 ⟨rfl, I'⟩)))
    · refine br_f c2 (px_wi ?_)
      by_cases c3 : pd_wi v3 0 11 = 0
      · refine br_t c3 ?_
        unfold wpY_effect
        exact py_is (br_f c1 (py_wi (br_f c2 (py_wi (br_t c3 ⟨rfl, I'⟩)))))
      · obtain ⟨w, hw, rfl, ht⟩ := pd_is1 c1
        obtain ⟨t, ht2, rfl⟩ := pd_wiN (n := 11) (by decide) c3
        have vw : vp_in (nI w) 12 := vp_in_nI hw (by omega)
        have cw : (nI w).toNatClampNeg = w := pd_cl (by omega)
        refine br_f c3 ⟨vw, nm_r (e' := upd a_effects w v2) (by rw [cw]) ⟨vw, nm_r (e' := upd a_targets w (nI t)) (by rw [cw]) ?_⟩⟩
        unfold wpY_effect
        refine py_is (br_f c1 (py_wi (br_f c2 (py_wi (br_f c3 ⟨vw, nm_r (e' := upd a_effects w v2) (by rw [cw]) ⟨vw, nm_r (e' := upd a_targets w (nI t)) (by rw [cw]) ⟨rfl, ?_⟩⟩⟩)))))
        exact ⟨L, rk, ⟨g_many, g_waiting, g_acted, b_kids, b_kidCount, b_left, b_top, b_width, b_height, b_order, b_stack, b_events, rfl, hB, hS, hK, ⟨hV.1, hV.2.1, hV.2.2.1, pd_uP (P := fun x => ∃ k, k < 12 ∧ x = nI k) hV.2.2.2.1 ⟨t, by omega, rfl⟩, hV.2.2.2.2⟩, ho, hpr, hf, hq⟩, D0⟩
