theorem i_vc_pump {k : Nat} {u : SX} {v : SY} (I : i_Rel k u v) (hk : k + 8 ≤ 4096) (v1 : Int32) : wpX_pump (fun r u' => wpY_pump (fun r' v' => r' = r ∧ i_Rel (k + 8) u' v') v v1) u v1 := by
  have I' : i_Rel (k + 8) u v := I
  obtain ⟨L, rk, M, D⟩ := I
  obtain ⟨f_stacked, f_treeSize, f_over, f_pressed, f_focus, f_waiting, f_noteCount, a_there, a_parents, a_kinds, a_colours, a_weights, a_gaps, a_layouts, a_values, a_effects, a_targets, a_visible, a_enabled, a_on, a_wishedPlaces, a_wishedSizes, a_shifts, a_stack, a_tree, a_seen, a_able, a_places, a_sizes, a_clipStarts, a_clipEnds, a_eventKinds, a_eventXs, a_eventYs, a_notes, a_pixels⟩ := u
  obtain ⟨g_many, g_waiting, g_acted, b_kids, b_kidCount, b_left, b_top, b_width, b_height, b_order, b_stack, b_events, rfl, hB, hS, hK, hV, ho, hpr, hf, hq⟩ := M
  obtain ⟨G, hG, hD⟩ := D
  obtain ⟨q, hq16, rfl, rfl, hE⟩ := hq
  unfold wpX_pump
  refine px_wi ?_
  by_cases c1 : pd_wi v1 0 16 = 0
  · refine br_t c1 ?_
    unfold wpY_pump
    exact py_wi (br_t c1 ⟨rfl, I'⟩)
  · refine br_f c1 ?_
    have main : ∀ c : Nat, c ≤ q → (∀ post : Int32 → SY → Prop, (∃ n31, wY_pump_31 post (nI c) n31 0 g_many (nI q) f_noteCount f_over f_pressed f_focus g_acted a_there a_kinds (fun j => a_wishedPlaces (2 * j)) (fun j => a_wishedPlaces (2 * j + 1)) (fun j => a_wishedSizes (2 * j)) (fun j => a_wishedSizes (2 * j + 1)) a_colours a_layouts a_gaps a_weights (fun j => a_shifts (2 * j)) (fun j => a_shifts (2 * j + 1)) a_visible a_enabled a_on a_values a_parents a_effects a_targets b_kids b_kidCount b_left b_top b_width b_height b_order b_stack a_pixels b_events a_notes) → wpY_pump post (g_many, nI q, f_noteCount, f_over, f_pressed, f_focus, g_acted, a_there, a_kinds, (fun j => a_wishedPlaces (2 * j)), (fun j => a_wishedPlaces (2 * j + 1)), (fun j => a_wishedSizes (2 * j)), (fun j => a_wishedSizes (2 * j + 1)), a_colours, a_layouts, a_gaps, a_weights, (fun j => a_shifts (2 * j)), (fun j => a_shifts (2 * j + 1)), a_visible, a_enabled, a_on, a_values, a_parents, a_effects, a_targets, b_kids, b_kidCount, b_left, b_top, b_width, b_height, b_order, b_stack, a_pixels, b_events, a_notes) v1) →
        ∃ n31, wX_pump_31 (fun r u' => wpY_pump (fun r' v' => r' = r ∧ i_Rel (k + 8) u' v') (g_many, nI q, f_noteCount, f_over, f_pressed, f_focus, g_acted, a_there, a_kinds, (fun j => a_wishedPlaces (2 * j)), (fun j => a_wishedPlaces (2 * j + 1)), (fun j => a_wishedSizes (2 * j)), (fun j => a_wishedSizes (2 * j + 1)), a_colours, a_layouts, a_gaps, a_weights, (fun j => a_shifts (2 * j)), (fun j => a_shifts (2 * j + 1)), a_visible, a_enabled, a_on, a_values, a_parents, a_effects, a_targets, b_kids, b_kidCount, b_left, b_top, b_width, b_height, b_order, b_stack, a_pixels, b_events, a_notes) v1) (nI c) n31 0 f_stacked f_treeSize f_over f_pressed f_focus (nI q) f_noteCount a_there a_parents a_kinds a_colours a_weights a_gaps a_layouts a_values a_effects a_targets a_visible a_enabled a_on a_wishedPlaces a_wishedSizes a_shifts a_stack a_tree a_seen a_able a_places a_sizes a_clipStarts a_clipEnds a_eventKinds a_eventXs a_eventYs a_notes a_pixels := by
      intro c hc hyp
      obtain ⟨m', L', G', fs', ov', pr', fo', nc', st', va', vi', en', on', sh', ns', ki', kc', hM', hG', hx, hy⟩ := pd_pumpL (a_there := a_there) (a_parents := a_parents) (a_kinds := a_kinds) (a_colours := a_colours) (a_weights := a_weights) (a_gaps := a_gaps) (a_layouts := a_layouts) (a_effects := a_effects) (a_targets := a_targets) (a_wishedPlaces := a_wishedPlaces) (a_wishedSizes := a_wishedSizes) (a_eventKinds := a_eventKinds) (a_eventXs := a_eventXs) (a_eventYs := a_eventYs) (a_pixels := a_pixels) (b_events := b_events)
        hc hq16 hE c 0 g_acted L G f_stacked f_over f_pressed f_focus f_noteCount a_stack a_values a_visible a_enabled a_on a_shifts a_notes b_kids b_kidCount (by omega) ⟨hB, hS, hK, hV, ho, hpr, hf⟩ hG
      refine ⟨c + 1, hx f_treeSize a_tree a_seen a_able a_places a_sizes a_clipStarts a_clipEnds _ hD (fun tn tr se ab pl sz cs ce hD' => px_drop hc hq16 (px_draw (G := G') hM'.1 hG' hM'.2.2.2.1 hD' (hyp _ ⟨c + 1, hy g_many b_left b_top b_width b_height b_order b_stack _ (fun mn od sk lf tp wd hg => py_drop78 hc hq16 (py_draw (G := G') hM'.1 hM'.2.2.1 hM'.2.2.2.1 hG' (fun mn2 od2 sk2 lf2 tp2 wd2 hg2 => ⟨rfl, ?_⟩)))⟩)))⟩
      exact pd_mk hM'.1 hM'.2.1 hM'.2.2.1 hM'.2.2.2.1 hM'.2.2.2.2.1 hM'.2.2.2.2.2.1 hM'.2.2.2.2.2.2 (pd_QUd hc hq16 hE) ⟨G', hG', hD'⟩
    obtain ⟨n, hn, rfl⟩ := pd_wiN (n := 16) (by decide) c1
    by_cases c2 : nI q ≤ nI n
    · refine br_t c2 (main q (Nat.le_refl _) (fun post h => ?_))
      unfold wpY_pump
      exact py_wi (br_f c1 (br_t c2 h))
    · have hnq : n ≤ q := by
        have := Int32.not_le.mp c2
        rw [nI_ltI (by omega) (by omega)] at this
        omega
      refine br_f c2 (main n hnq (fun post h => ?_))
      unfold wpY_pump
      exact py_wi (br_f c1 (br_f c2 h))
