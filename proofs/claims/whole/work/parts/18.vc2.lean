section PDR
variable {f_stacked f_treeSize f_over f_pressed f_focus f_waiting f_noteCount : Int32} {a_there a_parents a_kinds a_colours a_weights a_gaps a_layouts a_values a_effects a_targets a_visible a_enabled a_on a_wishedPlaces a_wishedSizes a_shifts a_stack a_tree a_seen a_able a_places a_sizes a_clipStarts a_clipEnds a_eventKinds a_eventXs a_eventYs a_notes a_pixels : Nat → Int32}
variable {g_many g_waiting g_acted : Int32} {b_kids b_kidCount b_left b_top b_width b_height b_order b_stack b_events : Nat → Int32}
theorem pd_mk {k : Nat} {L : List Nat} {rk : Nat → Nat} (hB : pd_BI a_there a_parents L rk) (hS : pd_ST f_stacked a_stack L) (hK : pd_KD a_parents b_kidCount b_kids L) (hV : pd_VA a_wishedPlaces a_wishedSizes a_weights a_layouts a_targets a_shifts)
    (ho : pd_SP L f_over) (hpr : pd_SP L f_pressed) (hf : pd_SP L f_focus) (hq : pd_QU f_waiting g_waiting a_eventKinds a_eventXs a_eventYs b_events) (hD : pd_DE a_parents a_wishedPlaces a_wishedSizes a_shifts a_visible a_enabled a_layouts a_gaps a_weights L f_treeSize a_tree a_seen a_able a_places a_sizes a_clipStarts a_clipEnds) : i_Rel k (f_stacked, f_treeSize, f_over, f_pressed, f_focus, f_waiting, f_noteCount, a_there, a_parents, a_kinds, a_colours, a_weights, a_gaps, a_layouts, a_values, a_effects, a_targets, a_visible, a_enabled, a_on, a_wishedPlaces, a_wishedSizes, a_shifts, a_stack, a_tree, a_seen, a_able, a_places, a_sizes, a_clipStarts, a_clipEnds, a_eventKinds, a_eventXs, a_eventYs, a_notes, a_pixels) (g_many, g_waiting, f_noteCount, f_over, f_pressed, f_focus, g_acted, a_there, a_kinds, (fun j => a_wishedPlaces (2 * j)), (fun j => a_wishedPlaces (2 * j + 1)), (fun j => a_wishedSizes (2 * j)), (fun j => a_wishedSizes (2 * j + 1)), a_colours, a_layouts, a_gaps, a_weights, (fun j => a_shifts (2 * j)), (fun j => a_shifts (2 * j + 1)), a_visible, a_enabled, a_on, a_values, a_parents, a_effects, a_targets, b_kids, b_kidCount, b_left, b_top, b_width, b_height, b_order, b_stack, a_pixels, b_events, a_notes) :=
  ⟨L, rk, ⟨g_many, g_waiting, g_acted, b_kids, b_kidCount, b_left, b_top, b_width, b_height, b_order, b_stack, b_events, rfl, hB, hS, hK, hV, ho, hpr, hf, hq⟩, hD⟩
theorem py_placeR {post : SY → Prop} {w : Nat} {x y a b : Int32} (hw : w < 12)
    (h : post (g_many, g_waiting, f_noteCount, f_over, f_pressed, f_focus, g_acted, a_there, a_kinds, (fun j => (upd (upd a_wishedPlaces (2 * w) x) (2 * w + 1) y) (2 * j)), (fun j => (upd (upd a_wishedPlaces (2 * w) x) (2 * w + 1) y) (2 * j + 1)), (fun j => (upd (upd a_wishedSizes (2 * w) a) (2 * w + 1) b) (2 * j)), (fun j => (upd (upd a_wishedSizes (2 * w) a) (2 * w + 1) b) (2 * j + 1)), a_colours, a_layouts, a_gaps, a_weights, (fun j => a_shifts (2 * j)), (fun j => a_shifts (2 * j + 1)), a_visible, a_enabled, a_on, a_values, a_parents, a_effects, a_targets, b_kids, b_kidCount, b_left, b_top, b_width, b_height, b_order, b_stack, a_pixels, b_events, a_notes)) : wpY_place post (g_many, g_waiting, f_noteCount, f_over, f_pressed, f_focus, g_acted, a_there, a_kinds, (fun j => a_wishedPlaces (2 * j)), (fun j => a_wishedPlaces (2 * j + 1)), (fun j => a_wishedSizes (2 * j)), (fun j => a_wishedSizes (2 * j + 1)), a_colours, a_layouts, a_gaps, a_weights, (fun j => a_shifts (2 * j)), (fun j => a_shifts (2 * j + 1)), a_visible, a_enabled, a_on, a_values, a_parents, a_effects, a_targets, b_kids, b_kidCount, b_left, b_top, b_width, b_height, b_order, b_stack, a_pixels, b_events, a_notes) (nI w) x y a b := by
  refine py_place hw ?_
  rw [pd_ev, pd_od, pd_ev, pd_od] at h
  exact h
theorem py_beginR {post : SY → Prop} {w : Nat} {p1 p2 : Int32} (hw : w < 12)
    (h : post (g_many, g_waiting, f_noteCount, f_over, f_pressed, f_focus, g_acted, a_there, upd a_kinds w p1, (fun j => a_wishedPlaces (2 * j)), (fun j => a_wishedPlaces (2 * j + 1)), (fun j => a_wishedSizes (2 * j)), (fun j => a_wishedSizes (2 * j + 1)), upd a_colours w p2, upd a_layouts w 0, upd a_gaps w 0, upd a_weights w 0, (fun j => (upd (upd a_shifts (2 * w) 0) (2 * w + 1) 0) (2 * j)), (fun j => (upd (upd a_shifts (2 * w) 0) (2 * w + 1) 0) (2 * j + 1)), upd a_visible w 1, upd a_enabled w 1, upd a_on w 0, upd a_values w 0, a_parents, upd a_effects w 0, upd a_targets w 0, b_kids, upd b_kidCount w 0, b_left, b_top, b_width, b_height, b_order, b_stack, a_pixels, b_events, a_notes)) :
    wpY_begin post (g_many, g_waiting, f_noteCount, f_over, f_pressed, f_focus, g_acted, a_there, a_kinds, (fun j => a_wishedPlaces (2 * j)), (fun j => a_wishedPlaces (2 * j + 1)), (fun j => a_wishedSizes (2 * j)), (fun j => a_wishedSizes (2 * j + 1)), a_colours, a_layouts, a_gaps, a_weights, (fun j => a_shifts (2 * j)), (fun j => a_shifts (2 * j + 1)), a_visible, a_enabled, a_on, a_values, a_parents, a_effects, a_targets, b_kids, b_kidCount, b_left, b_top, b_width, b_height, b_order, b_stack, a_pixels, b_events, a_notes) (nI w) p1 p2 := by
  refine py_begin hw ?_
  rw [pd_ev, pd_od] at h
  exact h
end PDR
theorem i_vc_wish {k : Nat} {u : SX} {v : SY} (I : i_Rel k u v) (hk : k + 8 ≤ 4096) (v1 : Int32) (v2 : Int32) (v3 : Int32) (v4 : Int32) (v5 : Int32) : wpX_wish (fun r u' => wpY_wish (fun r' v' => r' = r ∧ i_Rel (k + 8) u' v') v v1 v2 v3 v4 v5) u v1 v2 v3 v4 v5 := by
  have I' : i_Rel (k + 8) u v := I
  obtain ⟨L, rk, M, D⟩ := I
  obtain ⟨f_stacked, f_treeSize, f_over, f_pressed, f_focus, f_waiting, f_noteCount, a_there, a_parents, a_kinds, a_colours, a_weights, a_gaps, a_layouts, a_values, a_effects, a_targets, a_visible, a_enabled, a_on, a_wishedPlaces, a_wishedSizes, a_shifts, a_stack, a_tree, a_seen, a_able, a_places, a_sizes, a_clipStarts, a_clipEnds, a_eventKinds, a_eventXs, a_eventYs, a_notes, a_pixels⟩ := u
  obtain ⟨g_many, g_waiting, g_acted, b_kids, b_kidCount, b_left, b_top, b_width, b_height, b_order, b_stack, b_events, rfl, hB, hS, hK, hV, ho, hpr, hf, hq⟩ := M
  unfold wpX_wish
  refine px_is ?_
  by_cases c1 : pd_is a_there v1 = 0
  · refine br_t c1 ?_
    unfold wpY_wish
    exact py_is (br_t c1 ⟨rfl, I'⟩)
  · refine br_f c1 ?_
    by_cases c2 : v1 = 0
    · refine br_t c2 ?_
      unfold wpY_wish
      exact py_is (br_f c1 (br_t c2 ⟨rfl, I'⟩))
    · refine br_f c2 (px_wh ?_)
      by_cases c3 : pd_wh v2 v3 v4 v5 = 0
      · refine br_t c3 ?_
        unfold wpY_wish
        exact py_is (br_f c1 (br_f c2 (py_wh (br_t c3 ⟨rfl, I'⟩))))
      · obtain ⟨w, hw, rfl, ht⟩ := pd_is1 c1
        have hw0 : 0 < w := Nat.pos_of_ne_zero fun z => c2 (by rw [z]; exact nI_0)
        have hV' : pd_VA (upd (upd a_wishedPlaces (2 * w) v2) (2 * w + 1) v3) (upd (upd a_wishedSizes (2 * w) v4) (2 * w + 1) v5) a_weights a_layouts a_targets a_shifts := by
          refine ⟨?_, hV.2⟩
          rw [pd_un (by omega), pd_un (by omega), pd_un (by omega), pd_un (by omega), pd_un (by omega), pd_un (by omega), pd_un (by omega), pd_un (by omega)]
          exact hV.1
        refine br_f c3 (px_setw hw (px_settle hB hS hV' (fun tn tr se ab pl sz cs ce hD => ?_)))
        unfold wpY_wish
        refine py_is (br_f c1 (br_f c2 (py_wh (br_f c3 (py_placeR hw ⟨rfl, ?_⟩)))))
        exact pd_mk hB hS hK hV' ho hpr hf hq hD
theorem i_vc_arrange {k : Nat} {u : SX} {v : SY} (I : i_Rel k u v) (hk : k + 8 ≤ 4096) (v1 : Int32) (v2 : Int32) (v3 : Int32) (v4 : Int32) : wpX_arrange (fun r u' => wpY_arrange (fun r' v' => r' = r ∧ i_Rel (k + 8) u' v') v v1 v2 v3 v4) u v1 v2 v3 v4 := by
  have I' : i_Rel (k + 8) u v := I
  obtain ⟨L, rk, M, D⟩ := I
  obtain ⟨f_stacked, f_treeSize, f_over, f_pressed, f_focus, f_waiting, f_noteCount, a_there, a_parents, a_kinds, a_colours, a_weights, a_gaps, a_layouts, a_values, a_effects, a_targets, a_visible, a_enabled, a_on, a_wishedPlaces, a_wishedSizes, a_shifts, a_stack, a_tree, a_seen, a_able, a_places, a_sizes, a_clipStarts, a_clipEnds, a_eventKinds, a_eventXs, a_eventYs, a_notes, a_pixels⟩ := u
  obtain ⟨g_many, g_waiting, g_acted, b_kids, b_kidCount, b_left, b_top, b_width, b_height, b_order, b_stack, b_events, rfl, hB, hS, hK, hV, ho, hpr, hf, hq⟩ := M
  unfold wpX_arrange
  refine px_is ?_
  by_cases c1 : pd_is a_there v1 = 0
  · refine br_t c1 ?_
    unfold wpY_arrange
    exact py_is (br_t c1 ⟨rfl, I'⟩)
  · refine br_f c1 (px_wi ?_)
    by_cases c2 : pd_wi v2 0 2 = 0
    · refine br_t c2 ?_
      unfold wpY_arrange
      exact py_is (br_f c1 (py_wi (br_t c2 ⟨rfl, I'⟩)))
    · refine br_f c2 (px_wi ?_)
      by_cases c3 : pd_wi v3 0 3 = 0
      · refine br_t c3 ?_
        unfold wpY_arrange
        exact py_is (br_f c1 (py_wi (br_f c2 (py_wi (br_t c3 ⟨rfl, I'⟩)))))
      · refine br_f c3 (px_wi ?_)
        by_cases c4 : pd_wi v4 0 3 = 0
        · refine br_t c4 ?_
          unfold wpY_arrange
          exact py_is (br_f c1 (py_wi (br_f c2 (py_wi (br_f c3 (py_wi (br_t c4 ⟨rfl, I'⟩)))))))
        · obtain ⟨w, hw, rfl, ht⟩ := pd_is1 c1
          obtain ⟨l, hl, rfl⟩ := pd_wiN (n := 2) (by decide) c2
          obtain ⟨m, hm, rfl⟩ := pd_wiN (n := 3) (by decide) c4
          have vw : vp_in (nI w) 12 := vp_in_nI hw (by omega)
          have cw : (nI w).toNatClampNeg = w := pd_cl (by omega)
          have hV' : pd_VA a_wishedPlaces a_wishedSizes (upd a_weights w (nI m)) (upd a_layouts w (nI l)) a_targets a_shifts :=
            ⟨hV.1, pd_uP (P := fun x => ∃ k, k ≤ 3 ∧ x = nI k) hV.2.1 ⟨m, hm, rfl⟩, pd_uP (P := fun x => ∃ k, k ≤ 2 ∧ x = nI k) hV.2.2.1 ⟨l, hl, rfl⟩, hV.2.2.2⟩
          refine br_f c4 ⟨vw, nm_r (e' := upd a_layouts w (nI l)) (by rw [cw]) ⟨vw, nm_r (e' := upd a_gaps w v3) (by rw [cw]) ⟨vw, nm_r (e' := upd a_weights w (nI m)) (by rw [cw]) (px_settle hB hS hV' (fun tn tr se ab pl sz cs ce hD => ?_))⟩⟩⟩
          unfold wpY_arrange
          refine py_is (br_f c1 (py_wi (br_f c2 (py_wi (br_f c3 (py_wi (br_f c4 ⟨vw, nm_r (e' := upd a_layouts w (nI l)) (by rw [cw]) ⟨vw, nm_r (e' := upd a_gaps w v3) (by rw [cw]) ⟨vw, nm_r (e' := upd a_weights w (nI m)) (by rw [cw]) ⟨rfl, ?_⟩⟩⟩⟩)))))))
          exact pd_mk hB hS hK hV' ho hpr hf hq hD
theorem i_vc_shift {k : Nat} {u : SX} {v : SY} (I : i_Rel k u v) (hk : k + 8 ≤ 4096) (v1 : Int32) (v2 : Int32) (v3 : Int32) : wpX_shift (fun r u' => wpY_shift (fun r' v' => r' = r ∧ i_Rel (k + 8) u' v') v v1 v2 v3) u v1 v2 v3 := by
  have I' : i_Rel (k + 8) u v := I
  obtain ⟨L, rk, M, D⟩ := I
  obtain ⟨f_stacked, f_treeSize, f_over, f_pressed, f_focus, f_waiting, f_noteCount, a_there, a_parents, a_kinds, a_colours, a_weights, a_gaps, a_layouts, a_values, a_effects, a_targets, a_visible, a_enabled, a_on, a_wishedPlaces, a_wishedSizes, a_shifts, a_stack, a_tree, a_seen, a_able, a_places, a_sizes, a_clipStarts, a_clipEnds, a_eventKinds, a_eventXs, a_eventYs, a_notes, a_pixels⟩ := u
  obtain ⟨g_many, g_waiting, g_acted, b_kids, b_kidCount, b_left, b_top, b_width, b_height, b_order, b_stack, b_events, rfl, hB, hS, hK, hV, ho, hpr, hf, hq⟩ := M
  unfold wpX_shift
  refine px_is ?_
  by_cases c1 : pd_is a_there v1 = 0
  · refine br_t c1 ?_
    unfold wpY_shift
    exact py_is (br_t c1 ⟨rfl, I'⟩)
  · refine br_f c1 (px_wi ?_)
    by_cases c2 : pd_wi v2 (-20) 20 = 0
    · refine br_t c2 ?_
      unfold wpY_shift
      exact py_is (br_f c1 (py_wi (br_t c2 ⟨rfl, I'⟩)))
    · refine br_f c2 (px_wi ?_)
      by_cases c3 : pd_wi v3 (-20) 20 = 0
      · refine br_t c3 ?_
        unfold wpY_shift
        exact py_is (br_f c1 (py_wi (br_f c2 (py_wi (br_t c3 ⟨rfl, I'⟩)))))
      · obtain ⟨w, hw, rfl, ht⟩ := pd_is1 c1
        have vw : vp_in (nI w) 12 := vp_in_nI hw (by omega)
        have cw : (nI w).toNatClampNeg = w := pd_cl (by omega)
        have v0 : vp_in (2 * nI w) 24 := by rw [pd_2]; exact vp_in_nI (by omega) (by omega)
        have c0 : (2 * nI w).toNatClampNeg = 2 * w := by rw [pd_2]; exact pd_cl (by omega)
        have v1 : vp_in (2 * nI w + 1) 24 := by rw [pd_21]; exact vp_in_nI (by omega) (by omega)
        have c1' : (2 * nI w + 1).toNatClampNeg = 2 * w + 1 := by rw [pd_21]; exact pd_cl (by omega)
        have hV' : pd_VA a_wishedPlaces a_wishedSizes a_weights a_layouts a_targets (upd (upd a_shifts (2 * w) v2) (2 * w + 1) v3) :=
          ⟨hV.1, hV.2.1, hV.2.2.1, hV.2.2.2.1, pd_uP (P := fun x => x ≤ 20) (pd_uP (P := fun x => x ≤ 20) hV.2.2.2.2 (pd_wi1 c2).2) (pd_wi1 c3).2⟩
        refine br_f c3 ⟨v0, nm_r (e' := upd a_shifts (2 * w) v2) (by rw [c0]) ⟨v1, nm_r (e' := upd (upd a_shifts (2 * w) v2) (2 * w + 1) v3) (by rw [c1']) (px_settle hB hS hV' (fun tn tr se ab pl sz cs ce hD => ?_))⟩⟩
        unfold wpY_shift
        refine py_is (br_f c1 (py_wi (br_f c2 (py_wi (br_f c3 ⟨vw, nm_r (e' := fun j => upd (upd a_shifts (2 * w) v2) (2 * w + 1) v3 (2 * j)) (by rw [cw, pd_ev]) ⟨vw, nm_r (e' := fun j => upd (upd a_shifts (2 * w) v2) (2 * w + 1) v3 (2 * j + 1)) (by rw [cw, pd_od]) ⟨rfl, ?_⟩⟩⟩)))))
        exact pd_mk hB hS hK hV' ho hpr hf hq hD
theorem pd_len11' {th pa : Nat → Int32} {L : List Nat} {rk : Nat → Nat} (H : pd_BI th pa L rk) : L.length ≤ 11 := pd_len11 H.1 H.2.1
theorem i_vc_change {k : Nat} {u : SX} {v : SY} (I : i_Rel k u v) (hk : k + 8 ≤ 4096) (v1 : Int32) (v2 : Int32) (v3 : Int32) : wpX_change (fun r u' => wpY_change (fun r' v' => r' = r ∧ i_Rel (k + 8) u' v') v v1 v2 v3) u v1 v2 v3 := by
  have I' : i_Rel (k + 8) u v := I
  obtain ⟨L, rk, M, D⟩ := I
  obtain ⟨f_stacked, f_treeSize, f_over, f_pressed, f_focus, f_waiting, f_noteCount, a_there, a_parents, a_kinds, a_colours, a_weights, a_gaps, a_layouts, a_values, a_effects, a_targets, a_visible, a_enabled, a_on, a_wishedPlaces, a_wishedSizes, a_shifts, a_stack, a_tree, a_seen, a_able, a_places, a_sizes, a_clipStarts, a_clipEnds, a_eventKinds, a_eventXs, a_eventYs, a_notes, a_pixels⟩ := u
  obtain ⟨g_many, g_waiting, g_acted, b_kids, b_kidCount, b_left, b_top, b_width, b_height, b_order, b_stack, b_events, rfl, hB, hS, hK, hV, ho, hpr, hf, hq⟩ := M
  unfold wpX_change
  refine px_is ?_
  by_cases c1 : pd_is a_there v1 = 0
  · refine br_t c1 ?_
    unfold wpY_change
    exact py_is (br_t c1 ⟨rfl, I'⟩)
  · refine br_f c1 ?_
    by_cases a : v2 < 0
    · refine br_t a ?_
      unfold wpY_change
      exact py_is (br_f c1 (py_wi (br_t (pd_wi_lo a) ⟨rfl, I'⟩)))
    · by_cases b : 3 < v2
      · refine br_f a (br_t b ?_)
        unfold wpY_change
        exact py_is (br_f c1 (py_wi (br_t (pd_wi_hi a b) ⟨rfl, I'⟩)))
      · have cin := pd_wi_in a b
        obtain ⟨w, hw, rfl, ht⟩ := pd_is1 c1
        have vw : vp_in (nI w) 12 := vp_in_nI hw (by omega)
        have cw : (nI w).toNatClampNeg = w := pd_cl (by omega)
        obtain ⟨j, hj, rfl⟩ := nI_of2 (n := 3) (M := 3) (by decide) a (Int32.not_lt.mp b)
        refine br_f a (br_f b ?_)
        have hz : j = 0 ∨ j = 1 ∨ j = 2 ∨ j = 3 := by omega
        rcases hz with rfl | rfl | rfl | rfl
        · refine br_t (by decide) (px_wi ?_)
          by_cases c3 : pd_wi v3 0 15 = 0
          · refine br_t c3 ?_
            unfold wpY_change
            exact py_is (br_f c1 (py_wi (br_f cin (br_t (by decide) (py_wi (br_t c3 ⟨rfl, I'⟩))))))
          · refine br_f c3 ⟨vw, nm_r (e' := upd a_colours w v3) (by rw [cw]) (px_settle hB hS hV (fun tn tr se ab pl sz cs ce hD => ?_))⟩
            unfold wpY_change
            refine py_is (br_f c1 (py_wi (br_f cin (br_t (by decide) (py_wi (br_f c3 (br_f (by decide) (br_t (by decide) ⟨vw, nm_r (e' := upd a_colours w v3) (by rw [cw]) (br_f (by decide) (br_f (by decide) (br_f (by decide) ⟨rfl, ?_⟩)))⟩))))))))
            exact pd_mk hB hS hK hV ho hpr hf hq hD
        · refine br_f (by decide) (br_t (by decide) ?_)
          by_cases c3 : v3 = 0
          · refine br_t c3 ⟨vw, nm_r (e' := upd a_visible w 0) (by rw [cw, pd_b0]) (px_settle hB hS hV (fun tn tr se ab pl sz cs ce hD => ?_))⟩
            unfold wpY_change
            refine py_is (br_f c1 (py_wi (br_f cin (br_f (by decide) (br_f (by decide) (br_f (by decide) (br_t (by decide) (br_t c3 ⟨vw, nm_r (e' := upd a_visible w 0) (by rw [cw, pd_b0]) (br_f (by decide) (br_f (by decide) ⟨rfl, ?_⟩))⟩))))))))
            exact pd_mk hB hS hK hV ho hpr hf hq hD
          · refine br_f c3 ⟨vw, nm_r (e' := upd a_visible w 1) (by rw [cw, pd_b1]) (px_settle hB hS hV (fun tn tr se ab pl sz cs ce hD => ?_))⟩
            unfold wpY_change
            refine py_is (br_f c1 (py_wi (br_f cin (br_f (by decide) (br_f (by decide) (br_f (by decide) (br_t (by decide) (br_f c3 ⟨vw, nm_r (e' := upd a_visible w 1) (by rw [cw, pd_b1]) (br_f (by decide) (br_f (by decide) ⟨rfl, ?_⟩))⟩))))))))
            exact pd_mk hB hS hK hV ho hpr hf hq hD
        · refine br_f (by decide) (br_f (by decide) (br_t (by decide) ?_))
          by_cases c3 : v3 = 0
          · refine br_t c3 ⟨vw, nm_r (e' := upd a_enabled w 0) (by rw [cw, pd_b0]) (px_settle hB hS hV (fun tn tr se ab pl sz cs ce hD => ?_))⟩
            unfold wpY_change
            refine py_is (br_f c1 (py_wi (br_f cin (br_f (by decide) (br_f (by decide) (br_f (by decide) (br_f (by decide) (br_t (by decide) (br_t c3 ⟨vw, nm_r (e' := upd a_enabled w 0) (by rw [cw, pd_b0]) (br_f (by decide) ⟨rfl, ?_⟩)⟩)))))))))
            exact pd_mk hB hS hK hV ho hpr hf hq hD
          · refine br_f c3 ⟨vw, nm_r (e' := upd a_enabled w 1) (by rw [cw, pd_b1]) (px_settle hB hS hV (fun tn tr se ab pl sz cs ce hD => ?_))⟩
            unfold wpY_change
            refine py_is (br_f c1 (py_wi (br_f cin (br_f (by decide) (br_f (by decide) (br_f (by decide) (br_f (by decide) (br_t (by decide) (br_f c3 ⟨vw, nm_r (e' := upd a_enabled w 1) (by rw [cw, pd_b1]) (br_f (by decide) ⟨rfl, ?_⟩)⟩)))))))))
            exact pd_mk hB hS hK hV ho hpr hf hq hD
        · refine br_f (by decide) (br_f (by decide) (br_f (by decide) (br_t (by decide) ?_)))
          by_cases c2 : nI w = 0
          · refine br_t c2 ?_
            unfold wpY_change
            exact py_is (br_f c1 (py_wi (br_f cin (br_f (by decide) (br_t (by decide) (br_t c2 ⟨rfl, I'⟩))))))
          · have hw0 : 0 < w := Nat.pos_of_ne_zero fun z => c2 (by rw [z]; exact nI_0)
            have hwL : w ∈ L := ((hB.2.2.1 w hw).mp ht).resolve_left (by omega)
            obtain ⟨p, hp, ep, _⟩ := hB.2.2.2.2 w hwL
            have hp12 := pd_12lt hB.2.1 hp
            have hL := pd_len11' hB
            have hc : ∀ c, c ∈ L → c < 12 := fun c hc => (hB.2.1 c hc).2
            have hKl : (pd_kd a_parents L p).length ≤ 11 := Nat.le_trans (List.length_filter_le _ _) hL
            obtain ⟨hk1, hk2⟩ := hK p hp
            have hKc : ∀ c, c ∈ pd_kd a_parents L p → c < 12 := fun c hc' => hc c (pd_mkd.mp hc').1
            have other : ∀ q, (q = 0 ∨ q ∈ L) → q ≠ p → ¬ a_parents w = nI q := fun q hq' hqp z => hqp (pd_im (z.symm.trans ep) (by have := pd_12lt hB.2.1 hq'; omega) (by omega))
            refine br_f c2 ?_
            by_cases c3 : v3 = 0
            · have hB' := pd_BIr hB (pd_loN (w := w) hB.1) (pd_loM hwL)
              refine br_t c3 (px_lower hw hw0 hS hL hc (fun n st hS' => px_settle hB' hS' hV (fun tn tr se ab pl sz cs ce hD => ?_)))
              unfold wpY_change
              refine py_is (br_f c1 (py_wi (br_f cin (br_f (by decide) (br_t (by decide) (br_f c2 (br_f (by decide) (br_f (by decide) (br_f (by decide) (br_t (by decide) (br_t c3 (py_lo hw hp12 hKl ep hk1 hk2 hKc (fun ki s1 s2 => ⟨rfl, ?_⟩)))))))))))))
              have hK' : pd_KD a_parents (upd b_kidCount p (nI ((pd_rm (pd_kd a_parents L p) w).length + 1))) ki (w :: pd_rm L w) :=
                pd_KDr (pd_len11' hB') (pd_loM hwL) hK s2 ⟨by rw [pd_kdlo ep, List.length_cons], by rw [pd_kdlo ep]; exact s1⟩ (fun q hq' hqp => pd_kdlon (other q hq' hqp))
              exact pd_mk hB' hS' hK' hV (pd_SPr (pd_loM hwL) ho) (pd_SPr (pd_loM hwL) hpr) (pd_SPr (pd_loM hwL) hf) hq hD
            · have hB' := pd_BIr hB (pd_hiN (w := w) hB.1) (pd_hiM hwL)
              refine br_f c3 (px_raise hw hw0 hS hL hc (fun n st hS' => px_settle hB' hS' hV (fun tn tr se ab pl sz cs ce hD => ?_)))
              unfold wpY_change
              refine py_is (br_f c1 (py_wi (br_f cin (br_f (by decide) (br_t (by decide) (br_f c2 (br_f (by decide) (br_f (by decide) (br_f (by decide) (br_t (by decide) (br_f c3 (py_hi hw hp12 hKl ep hk1 hk2 hKc (fun ki s1 s2 => ⟨rfl, ?_⟩)))))))))))))
              have hK' : pd_KD a_parents (upd b_kidCount p (nI ((pd_rm (pd_kd a_parents L p) w).length + 1))) ki (pd_rm L w ++ [w]) :=
                pd_KDr (pd_len11' hB') (pd_hiM hwL) hK s2 ⟨by rw [pd_kdhi ep, List.length_append, List.length_singleton], by rw [pd_kdhi ep]; exact s1⟩ (fun q hq' hqp => pd_kdhin (other q hq' hqp))
              exact pd_mk hB' hS' hK' hV (pd_SPr (pd_hiM hwL) ho) (pd_SPr (pd_hiM hwL) hpr) (pd_SPr (pd_hiM hwL) hf) hq hD
