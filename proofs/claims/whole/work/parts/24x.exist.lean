section PDX
variable {f_stacked f_treeSize f_over f_pressed f_focus f_waiting f_noteCount : Int32} {a_there a_parents a_kinds a_colours a_weights a_gaps a_layouts a_values a_effects a_targets a_visible a_enabled a_on a_wishedPlaces a_wishedSizes a_shifts a_stack a_tree a_seen a_able a_places a_sizes a_clipStarts a_clipEnds a_eventKinds a_eventXs a_eventYs a_notes a_pixels : Nat → Int32}
variable {g_many g_waiting g_acted : Int32} {b_kids b_kidCount b_left b_top b_width b_height b_order b_stack b_events : Nat → Int32}
/-! the same with one result for all posts -/
theorem px_unsE {w N : Nat} (hw : w < 12) (hN : N ≤ 12) :
    ∀ (R A : List Nat) (i : Nat) (st : Nat → Int32), pd_sg st 0 A → pd_sg st i R → A.length ≤ i → i + R.length = N → (∀ c, c ∈ R → c < 12) →
    ∃ st', pd_sg st' 0 (A ++ pd_rm R w) ∧ ∀ (f_treeSize : Int32) (a_tree a_seen a_able a_places a_sizes a_clipStarts a_clipEnds : Nat → Int32) (n : Nat) (post : SX → Prop), R.length < n → post (nI (A ++ pd_rm R w).length, f_treeSize, f_over, f_pressed, f_focus, f_waiting, f_noteCount, a_there, a_parents, a_kinds, a_colours, a_weights, a_gaps, a_layouts, a_values, a_effects, a_targets, a_visible, a_enabled, a_on, a_wishedPlaces, a_wishedSizes, a_shifts, st', a_tree, a_seen, a_able, a_places, a_sizes, a_clipStarts, a_clipEnds, a_eventKinds, a_eventXs, a_eventYs, a_notes, a_pixels) →
    wX_unstack_4 post (nI w) (nI N) f_treeSize f_over f_pressed f_focus f_waiting f_noteCount n (nI A.length) (nI i) a_there a_parents a_kinds a_colours a_weights a_gaps a_layouts a_values a_effects a_targets a_visible a_enabled a_on a_wishedPlaces a_wishedSizes a_shifts st a_tree a_seen a_able a_places a_sizes a_clipStarts a_clipEnds a_eventKinds a_eventXs a_eventYs a_notes a_pixels := by
  intro R
  induction R with
  | nil =>
    intro A i st hA _ hl hi _
    have e : A ++ pd_rm [] w = A := by simp [pd_rm]
    rw [e]
    refine ⟨st, hA, fun f_treeSize a_tree a_seen a_able a_places a_sizes a_clipStarts a_clipEnds n post hn h => ?_⟩
    obtain ⟨n, rfl⟩ : ∃ m, n = m + 1 := ⟨n - 1, by omega⟩
    rw [wX_unstack_4]
    have hi' : i = N := hi
    exact br_t (by rw [hi']; exact Int32.le_refl _) h
  | cons c R ih =>
    intro A i st hA hR hl hi hc
    rw [List.length_cons] at hi
    have hc12 : c < 12 := hc c (List.mem_cons_self ..)
    have hcR : ∀ d, d ∈ R → d < 12 := fun d hd => hc d (List.mem_cons_of_mem _ hd)
    have es : st (nI i).toNatClampNeg = nI c := by rw [pd_cl (by omega)]; exact hR.1
    by_cases e : c = w
    · subst e
      have er : pd_rm (c :: R) c = pd_rm R c := by unfold pd_rm; simp
      rw [er]
      obtain ⟨st', h1, h2⟩ := ih A (i + 1) st hA hR.2 (by omega) (by omega) hcR
      refine ⟨st', h1, fun f_treeSize a_tree a_seen a_able a_places a_sizes a_clipStarts a_clipEnds n post hn h => ?_⟩
      rw [List.length_cons] at hn
      obtain ⟨n, rfl⟩ : ∃ m, n = m + 1 := ⟨n - 1, by omega⟩
      rw [wX_unstack_4]
      dsimp only
      rw [es]
      exact br_f (nI_ge (by omega) (by omega)) ⟨vp_in_nI (by omega) (by omega), br_t rfl (nm_r (nI_1 i) (h2 f_treeSize a_tree a_seen a_able a_places a_sizes a_clipStarts a_clipEnds n post (by omega) h))⟩
    · have er : pd_rm (c :: R) w = c :: pd_rm R w := by unfold pd_rm; simp [e]
      rw [er]
      have k := pd_cmp (b := 0) (i := i) hA (by rw [Nat.zero_add]; exact hR) hl
      simp only [Nat.zero_add] at k
      obtain ⟨s1, s2⟩ := k
      have hne : ¬ nI c = nI w := fun z => e (pd_im z (by omega) (by omega))
      obtain ⟨st', h1, h2⟩ := ih (A ++ [c]) (i + 1) _ s1 s2 (by rw [List.length_append, List.length_singleton]; omega) (by omega) hcR
      have el : A ++ [c] ++ pd_rm R w = A ++ c :: pd_rm R w := by simp
      rw [el] at h1 h2
      refine ⟨st', h1, fun f_treeSize a_tree a_seen a_able a_places a_sizes a_clipStarts a_clipEnds n post hn h => ?_⟩
      rw [List.length_cons] at hn
      obtain ⟨n, rfl⟩ : ∃ m, n = m + 1 := ⟨n - 1, by omega⟩
      rw [wX_unstack_4]
      dsimp only
      rw [es]
      refine br_f (nI_ge (by omega) (by omega)) ⟨vp_in_nI (by omega) (by omega), br_f hne ⟨vp_in_nI (by omega) (by omega), vp_in_nI (by omega) (by omega), nm_r (e' := upd st A.length (nI c)) (by rw [pd_cl (by omega)]) (nm_r (nI_1 A.length) (nm_r (nI_1 i) ?_))⟩⟩
      have k := h2 f_treeSize a_tree a_seen a_able a_places a_sizes a_clipStarts a_clipEnds n post (by omega) h
      rw [List.length_append, List.length_singleton] at k
      exact k
theorem px_raiseE {w : Nat} {L : List Nat} (hw : w < 12) (hw0 : 0 < w) (hST : pd_ST f_stacked a_stack L) (hl : L.length ≤ 11) (hc : ∀ c, c ∈ L → c < 12) :
    ∃ n st, pd_ST n st (pd_rm L w ++ [w]) ∧ ∀ (f_treeSize : Int32) (a_tree a_seen a_able a_places a_sizes a_clipStarts a_clipEnds : Nat → Int32) (post : SX → Prop), post (n, f_treeSize, f_over, f_pressed, f_focus, f_waiting, f_noteCount, a_there, a_parents, a_kinds, a_colours, a_weights, a_gaps, a_layouts, a_values, a_effects, a_targets, a_visible, a_enabled, a_on, a_wishedPlaces, a_wishedSizes, a_shifts, st, a_tree, a_seen, a_able, a_places, a_sizes, a_clipStarts, a_clipEnds, a_eventKinds, a_eventXs, a_eventYs, a_notes, a_pixels) → wpX_raise post (f_stacked, f_treeSize, f_over, f_pressed, f_focus, f_waiting, f_noteCount, a_there, a_parents, a_kinds, a_colours, a_weights, a_gaps, a_layouts, a_values, a_effects, a_targets, a_visible, a_enabled, a_on, a_wishedPlaces, a_wishedSizes, a_shifts, a_stack, a_tree, a_seen, a_able, a_places, a_sizes, a_clipStarts, a_clipEnds, a_eventKinds, a_eventXs, a_eventYs, a_notes, a_pixels) (nI w) := by
  have hr : (pd_rm L w).length ≤ 11 := Nat.le_trans (List.length_filter_le _ _) hl
  obtain ⟨rfl, hs⟩ := hST
  obtain ⟨st, h1, h2⟩ := px_unsE (f_over := f_over) (f_pressed := f_pressed) (f_focus := f_focus) (f_waiting := f_waiting) (f_noteCount := f_noteCount) (a_there := a_there) (a_parents := a_parents) (a_kinds := a_kinds) (a_colours := a_colours) (a_weights := a_weights) (a_gaps := a_gaps) (a_layouts := a_layouts) (a_values := a_values) (a_effects := a_effects) (a_targets := a_targets) (a_visible := a_visible) (a_enabled := a_enabled) (a_on := a_on) (a_wishedPlaces := a_wishedPlaces) (a_wishedSizes := a_wishedSizes) (a_shifts := a_shifts) (a_eventKinds := a_eventKinds) (a_eventXs := a_eventXs) (a_eventYs := a_eventYs) (a_notes := a_notes) (a_pixels := a_pixels)
    hw (N := L.length) (by omega) L [] 0 a_stack trivial hs (by simp) (by omega) hc
  rw [List.nil_append] at h1 h2
  refine ⟨nI ((pd_rm L w).length + 1), upd st (pd_rm L w).length (nI w), ⟨by rw [List.length_append, List.length_singleton], pd_sg_e h1⟩, fun f_treeSize a_tree a_seen a_able a_places a_sizes a_clipStarts a_clipEnds post h => ?_⟩
  refine br_f (nI_ne0 hw0 (by omega)) ⟨L.length + 1, h2 f_treeSize a_tree a_seen a_able a_places a_sizes a_clipStarts a_clipEnds _ _ (by omega) ?_⟩
  exact ⟨vp_in_nI (by omega) (by omega), nm_r (e' := upd st (pd_rm L w).length (nI w)) (by rw [pd_cl (by omega)]) (nm_r (nI_1 _) h)⟩
theorem py_takeE {w p N : Nat} (hw : w < 12) (hp : p < 12) (hN : N ≤ 12) (epa : a_parents w = nI p) (hk : b_kidCount p = nI N) (f : Nat → Int32) :
    ∀ (R A : List Nat) (i : Nat) (ki : Nat → Int32), pd_sg ki (12 * p) A → pd_sg ki (12 * p + i) R → A.length ≤ i → i + R.length = N → (∀ c, c ∈ R → c < 12) →
    (∀ j, (j < 12 * p ∨ 12 * p + 12 ≤ j) → ki j = f j) →
    ∃ ki', pd_sg ki' (12 * p) (A ++ pd_rm R w) ∧ (∀ j, (j < 12 * p ∨ 12 * p + 12 ≤ j) → ki' j = f j) ∧ ∀ (g_many : Int32) (b_left b_top b_width b_height b_order b_stack : Nat → Int32) (n : Nat) (post : SY → Prop), R.length < n → post (g_many, g_waiting, f_noteCount, f_over, f_pressed, f_focus, g_acted, a_there, a_kinds, (fun j => a_wishedPlaces (2 * j)), (fun j => a_wishedPlaces (2 * j + 1)), (fun j => a_wishedSizes (2 * j)), (fun j => a_wishedSizes (2 * j + 1)), a_colours, a_layouts, a_gaps, a_weights, (fun j => a_shifts (2 * j)), (fun j => a_shifts (2 * j + 1)), a_visible, a_enabled, a_on, a_values, a_parents, a_effects, a_targets, ki', upd b_kidCount p (nI (A ++ pd_rm R w).length), b_left, b_top, b_width, b_height, b_order, b_stack, a_pixels, b_events, a_notes) →
    wY_takeOut_15 post (nI w) (nI (12 * p)) g_many g_waiting f_noteCount f_over f_pressed f_focus g_acted n (nI A.length) (nI i) a_there a_kinds (fun j => a_wishedPlaces (2 * j)) (fun j => a_wishedPlaces (2 * j + 1)) (fun j => a_wishedSizes (2 * j)) (fun j => a_wishedSizes (2 * j + 1)) a_colours a_layouts a_gaps a_weights (fun j => a_shifts (2 * j)) (fun j => a_shifts (2 * j + 1)) a_visible a_enabled a_on a_values a_parents a_effects a_targets ki b_kidCount b_left b_top b_width b_height b_order b_stack a_pixels b_events a_notes := by
  have vw : vp_in (nI w) 12 := vp_in_nI hw (by omega)
  have cw : (nI w).toNatClampNeg = w := pd_cl (by omega)
  have vp : vp_in (nI p) 12 := vp_in_nI hp (by omega)
  have cp : (nI p).toNatClampNeg = p := pd_cl (by omega)
  intro R
  induction R with
  | nil =>
    intro A i ki hA _ hl hi _ hf
    have e : A ++ pd_rm [] w = A := by simp [pd_rm]
    rw [e]
    refine ⟨ki, hA, hf, fun g_many b_left b_top b_width b_height b_order b_stack n post hn h => ?_⟩
    obtain ⟨n, rfl⟩ : ∃ m, n = m + 1 := ⟨n - 1, by omega⟩
    have hi' : i = N := hi
    rw [wY_takeOut_15]
    dsimp only
    rw [cw, epa, cp, hk]
    exact ⟨vw, vp, br_t (by rw [hi']; exact Int32.le_refl _) ⟨vw, vp, nm_e h⟩⟩
  | cons c R ih =>
    intro A i ki hA hR hl hi hc hf
    rw [List.length_cons] at hi
    have hc12 : c < 12 := hc c (List.mem_cons_self ..)
    have hcR : ∀ d, d ∈ R → d < 12 := fun d hd => hc d (List.mem_cons_of_mem _ hd)
    have v4 : vp_in (nI (12 * p) + nI i) 144 := by rw [nI_add]; exact vp_in_nI (by omega) (by omega)
    have c4 : (nI (12 * p) + nI i).toNatClampNeg = 12 * p + i := by rw [nI_add]; exact pd_cl (by omega)
    have v3 : vp_in (nI (12 * p) + nI A.length) 144 := by rw [nI_add]; exact vp_in_nI (by omega) (by omega)
    have c3 : (nI (12 * p) + nI A.length).toNatClampNeg = 12 * p + A.length := by rw [nI_add]; exact pd_cl (by omega)
    have ek : ki (12 * p + i) = nI c := hR.1
    by_cases e : c = w
    · subst e
      have er : pd_rm (c :: R) c = pd_rm R c := by unfold pd_rm; simp
      rw [er]
      obtain ⟨ki', h1, h2, h3⟩ := ih A (i + 1) ki hA hR.2 (by omega) (by omega) hcR hf
      refine ⟨ki', h1, h2, fun g_many b_left b_top b_width b_height b_order b_stack n post hn h => ?_⟩
      rw [List.length_cons] at hn
      obtain ⟨n, rfl⟩ : ∃ m, n = m + 1 := ⟨n - 1, by omega⟩
      rw [wY_takeOut_15]
      dsimp only
      rw [cw, epa, cp, hk, c4, c3, ek]
      exact ⟨vw, vp, br_f (nI_ge (by omega) (by omega)) ⟨v4, br_t rfl (nm_r (nI_1 i) (h3 g_many b_left b_top b_width b_height b_order b_stack n post (by omega) h))⟩⟩
    · have er : pd_rm (c :: R) w = c :: pd_rm R w := by unfold pd_rm; simp [e]
      rw [er]
      obtain ⟨s1, s2⟩ := pd_cmp hA hR hl
      have hne : ¬ nI c = nI w := fun z => e (pd_im z (by omega) (by omega))
      obtain ⟨ki', h1, h2, h3⟩ := ih (A ++ [c]) (i + 1) _ s1 s2 (by rw [List.length_append, List.length_singleton]; omega) (by omega) hcR (fun j hj => by rw [pd_un (by omega)]; exact hf j hj)
      have el : A ++ [c] ++ pd_rm R w = A ++ c :: pd_rm R w := by simp
      rw [el] at h1 h3
      refine ⟨ki', h1, h2, fun g_many b_left b_top b_width b_height b_order b_stack n post hn h => ?_⟩
      rw [List.length_cons] at hn
      obtain ⟨n, rfl⟩ : ∃ m, n = m + 1 := ⟨n - 1, by omega⟩
      rw [wY_takeOut_15]
      dsimp only
      rw [cw, epa, cp, hk, c4, c3, ek]
      refine ⟨vw, vp, br_f (nI_ge (by omega) (by omega)) ⟨v4, br_f hne (nm_r (nI_1 A.length) ⟨v4, v3, nm_e (nm_r (nI_1 i) ?_)⟩)⟩⟩
      have k := h3 g_many b_left b_top b_width b_height b_order b_stack n post (by omega) h
      rw [List.length_append, List.length_singleton] at k
      exact k
theorem py_hiE {w p : Nat} {K : List Nat} (hw : w < 12) (hp : p < 12) (hN : K.length ≤ 11) (epa : a_parents w = nI p) (hk : b_kidCount p = nI K.length) (hs : pd_sg b_kids (12 * p) K) (hc : ∀ c, c ∈ K → c < 12) :
    ∃ ki, pd_sg ki (12 * p) (pd_rm K w ++ [w]) ∧ (∀ j, (j < 12 * p ∨ 12 * p + 12 ≤ j) → ki j = b_kids j) ∧ ∀ (g_many : Int32) (b_left b_top b_width b_height b_order b_stack : Nat → Int32) (post : SY → Prop), post (g_many, g_waiting, f_noteCount, f_over, f_pressed, f_focus, g_acted, a_there, a_kinds, (fun j => a_wishedPlaces (2 * j)), (fun j => a_wishedPlaces (2 * j + 1)), (fun j => a_wishedSizes (2 * j)), (fun j => a_wishedSizes (2 * j + 1)), a_colours, a_layouts, a_gaps, a_weights, (fun j => a_shifts (2 * j)), (fun j => a_shifts (2 * j + 1)), a_visible, a_enabled, a_on, a_values, a_parents, a_effects, a_targets, ki, upd b_kidCount p (nI ((pd_rm K w).length + 1)), b_left, b_top, b_width, b_height, b_order, b_stack, a_pixels, b_events, a_notes) → wpY_restack post (g_many, g_waiting, f_noteCount, f_over, f_pressed, f_focus, g_acted, a_there, a_kinds, (fun j => a_wishedPlaces (2 * j)), (fun j => a_wishedPlaces (2 * j + 1)), (fun j => a_wishedSizes (2 * j)), (fun j => a_wishedSizes (2 * j + 1)), a_colours, a_layouts, a_gaps, a_weights, (fun j => a_shifts (2 * j)), (fun j => a_shifts (2 * j + 1)), a_visible, a_enabled, a_on, a_values, a_parents, a_effects, a_targets, b_kids, b_kidCount, b_left, b_top, b_width, b_height, b_order, b_stack, a_pixels, b_events, a_notes) (nI w) 1 := by
  have vp : vp_in (nI p) 12 := vp_in_nI hp (by omega)
  have cp : (nI p).toNatClampNeg = p := pd_cl (by omega)
  have hl := pd_rml K w
  obtain ⟨ki, h1, h2, h3⟩ := py_takeE (g_waiting := g_waiting) (g_acted := g_acted) (f_noteCount := f_noteCount) (f_over := f_over) (f_pressed := f_pressed) (f_focus := f_focus) (a_there := a_there) (a_parents := a_parents) (a_kinds := a_kinds) (a_colours := a_colours) (a_weights := a_weights) (a_gaps := a_gaps) (a_layouts := a_layouts) (a_values := a_values) (a_effects := a_effects) (a_targets := a_targets) (a_visible := a_visible) (a_enabled := a_enabled) (a_on := a_on) (a_wishedPlaces := a_wishedPlaces) (a_wishedSizes := a_wishedSizes) (a_shifts := a_shifts) (a_notes := a_notes) (a_pixels := a_pixels) (b_kidCount := b_kidCount) (b_events := b_events)
    hw hp (N := K.length) (by omega) epa hk b_kids K [] 0 b_kids trivial hs (by simp) (by omega) hc (fun _ _ => rfl)
  rw [List.nil_append] at h1 h3
  refine ⟨upd ki (12 * p + (pd_rm K w).length) (nI w), (pd_sg_a _ [w] _).mpr ⟨pd_sg_c _ _ h1 (fun j _ hj => pd_un (by omega)), pd_us, trivial⟩, fun j hj => by rw [pd_un (by omega)]; exact h2 j hj, fun g_many b_left b_top b_width b_height b_order b_stack post h => ?_⟩
  refine ⟨vp_in_nI hw (by omega), nm_r (e' := nI p) (by rw [pd_cl (by omega), epa]) ⟨vp_in_nI hw (by omega), nm_r (e' := nI (12 * p)) (by rw [pd_cl (by omega), epa, pd_12]) ⟨K.length + 1, h3 g_many b_left b_top b_width b_height b_order b_stack _ _ (by omega) ?_⟩⟩⟩
  refine ⟨vp, vp, nm_r (e' := upd b_kidCount p (nI ((pd_rm K w).length + 1))) (by rw [cp, pd_us, pd_uu, nI_1]) (nm_r (e' := nI (pd_rm K w).length) (by rw [cp, pd_us]) ⟨1, ?_⟩)⟩
  have e : 12 * nI p + nI (pd_rm K w).length = nI (12 * p + (pd_rm K w).length) := pd_12b _ _
  have f70 : wY_restack_70 post (nI w) 1 (nI p) (nI (pd_rm K w).length) g_many g_waiting f_noteCount f_over f_pressed f_focus g_acted a_there a_kinds (fun j => a_wishedPlaces (2 * j)) (fun j => a_wishedPlaces (2 * j + 1)) (fun j => a_wishedSizes (2 * j)) (fun j => a_wishedSizes (2 * j + 1)) a_colours a_layouts a_gaps a_weights (fun j => a_shifts (2 * j)) (fun j => a_shifts (2 * j + 1)) a_visible a_enabled a_on a_values a_parents a_effects a_targets ki (upd b_kidCount p (nI ((pd_rm K w).length + 1))) b_left b_top b_width b_height b_order b_stack a_pixels b_events a_notes :=
    br_f (by decide) ⟨by rw [e]; exact vp_in_nI (by omega) (by omega), nm_r (e' := upd ki (12 * p + (pd_rm K w).length) (nI w)) (by rw [e, pd_cl (by omega)]) h⟩
  rw [wY_restack_29]
  exact br_c (fun _ => f70) (fun _ => br_f (by decide) f70)
end PDX
