section PDQ
variable {f_stacked f_treeSize f_over f_pressed f_focus f_waiting f_noteCount : Int32} {a_there a_parents a_kinds a_colours a_weights a_gaps a_layouts a_values a_effects a_targets a_visible a_enabled a_on a_wishedPlaces a_wishedSizes a_shifts a_stack a_tree a_seen a_able a_places a_sizes a_clipStarts a_clipEnds a_eventKinds a_eventXs a_eventYs a_notes a_pixels : Nat → Int32}
/-! Y: X: the stack -/
theorem px_uns4 {post : SX → Prop} {w N : Nat} (hw : w < 12) (hN : N ≤ 12) :
    ∀ (R A : List Nat) (i n : Nat) (st : Nat → Int32), pd_sg st 0 A → pd_sg st i R → A.length ≤ i → i + R.length = N → R.length < n → (∀ c, c ∈ R → c < 12) →
    (∀ st', pd_sg st' 0 (A ++ pd_rm R w) → post (nI (A ++ pd_rm R w).length, f_treeSize, f_over, f_pressed, f_focus, f_waiting, f_noteCount, a_there, a_parents, a_kinds, a_colours, a_weights, a_gaps, a_layouts, a_values, a_effects, a_targets, a_visible, a_enabled, a_on, a_wishedPlaces, a_wishedSizes, a_shifts, st', a_tree, a_seen, a_able, a_places, a_sizes, a_clipStarts, a_clipEnds, a_eventKinds, a_eventXs, a_eventYs, a_notes, a_pixels)) →
    wX_unstack_4 post (nI w) (nI N) f_treeSize f_over f_pressed f_focus f_waiting f_noteCount n (nI A.length) (nI i) a_there a_parents a_kinds a_colours a_weights a_gaps a_layouts a_values a_effects a_targets a_visible a_enabled a_on a_wishedPlaces a_wishedSizes a_shifts st a_tree a_seen a_able a_places a_sizes a_clipStarts a_clipEnds a_eventKinds a_eventXs a_eventYs a_notes a_pixels := by
  intro R
  induction R with
  | nil =>
    intro A i n st hA _ hl hi hn _ h
    obtain ⟨n, rfl⟩ : ∃ m, n = m + 1 := ⟨n - 1, by omega⟩
    rw [wX_unstack_4]
    have hi' : i = N := hi
    refine br_t (by rw [hi']; exact Int32.le_refl _) ?_
    have e : A ++ pd_rm [] w = A := by simp [pd_rm]
    rw [e] at h
    exact h st hA
  | cons c R ih =>
    intro A i n st hA hR hl hi hn hc h
    obtain ⟨n, rfl⟩ : ∃ m, n = m + 1 := ⟨n - 1, by omega⟩
    rw [List.length_cons] at hi hn
    have hc12 : c < 12 := hc c (List.mem_cons_self ..)
    have hcR : ∀ d, d ∈ R → d < 12 := fun d hd => hc d (List.mem_cons_of_mem _ hd)
    have es : st (nI i).toNatClampNeg = nI c := by rw [pd_cl (by omega)]; exact hR.1
    rw [wX_unstack_4]
    dsimp only
    rw [es]
    refine br_f (nI_ge (by omega) (by omega)) ⟨vp_in_nI (by omega) (by omega), ?_⟩
    by_cases e : c = w
    · subst e
      have er : pd_rm (c :: R) c = pd_rm R c := by unfold pd_rm; simp
      rw [er] at h
      exact br_t rfl (nm_r (nI_1 i) (ih A (i + 1) n st hA hR.2 (by omega) (by omega) (by omega) hcR h))
    · have er : pd_rm (c :: R) w = c :: pd_rm R w := by unfold pd_rm; simp [e]
      rw [er] at h
      have k := pd_cmp (b := 0) (i := i) hA (by rw [Nat.zero_add]; exact hR) hl
      simp only [Nat.zero_add] at k
      obtain ⟨s1, s2⟩ := k
      have hne : ¬ nI c = nI w := fun z => e (pd_im z (by omega) (by omega))
      refine br_f hne ⟨vp_in_nI (by omega) (by omega), vp_in_nI (by omega) (by omega), nm_r (e' := upd st A.length (nI c)) (by rw [pd_cl (by omega)]) (nm_r (nI_1 A.length) (nm_r (nI_1 i) ?_))⟩
      have k := ih (A ++ [c]) (i + 1) n _ s1 s2 (by rw [List.length_append, List.length_singleton]; omega) (by omega) (by omega) hcR (by simpa using h)
      rw [List.length_append, List.length_singleton] at k
      exact k
theorem px_uns {post : SX → Prop} {w : Nat} {L : List Nat} (hw : w < 12) (hST : pd_ST f_stacked a_stack L) (hl : L.length ≤ 11) (hc : ∀ c, c ∈ L → c < 12)
    (h : ∀ n st, pd_ST n st (pd_rm L w) → post (n, f_treeSize, f_over, f_pressed, f_focus, f_waiting, f_noteCount, a_there, a_parents, a_kinds, a_colours, a_weights, a_gaps, a_layouts, a_values, a_effects, a_targets, a_visible, a_enabled, a_on, a_wishedPlaces, a_wishedSizes, a_shifts, st, a_tree, a_seen, a_able, a_places, a_sizes, a_clipStarts, a_clipEnds, a_eventKinds, a_eventXs, a_eventYs, a_notes, a_pixels)) : wpX_unstack post (f_stacked, f_treeSize, f_over, f_pressed, f_focus, f_waiting, f_noteCount, a_there, a_parents, a_kinds, a_colours, a_weights, a_gaps, a_layouts, a_values, a_effects, a_targets, a_visible, a_enabled, a_on, a_wishedPlaces, a_wishedSizes, a_shifts, a_stack, a_tree, a_seen, a_able, a_places, a_sizes, a_clipStarts, a_clipEnds, a_eventKinds, a_eventXs, a_eventYs, a_notes, a_pixels) (nI w) := by
  obtain ⟨rfl, hs⟩ := hST
  exact ⟨L.length + 1, px_uns4 hw (N := L.length) (by omega) L [] 0 _ a_stack trivial hs (by simp) (by omega) (by omega) hc (fun st' hs' => h _ st' ⟨rfl, hs'⟩)⟩
theorem px_puth {post : SX → Prop} {w : Nat} {L : List Nat} (hST : pd_ST f_stacked a_stack L) (hl : L.length ≤ 11)
    (h : ∀ n st, pd_ST n st (L ++ [w]) → post (n, f_treeSize, f_over, f_pressed, f_focus, f_waiting, f_noteCount, a_there, a_parents, a_kinds, a_colours, a_weights, a_gaps, a_layouts, a_values, a_effects, a_targets, a_visible, a_enabled, a_on, a_wishedPlaces, a_wishedSizes, a_shifts, st, a_tree, a_seen, a_able, a_places, a_sizes, a_clipStarts, a_clipEnds, a_eventKinds, a_eventXs, a_eventYs, a_notes, a_pixels)) : wpX_putHighest post (f_stacked, f_treeSize, f_over, f_pressed, f_focus, f_waiting, f_noteCount, a_there, a_parents, a_kinds, a_colours, a_weights, a_gaps, a_layouts, a_values, a_effects, a_targets, a_visible, a_enabled, a_on, a_wishedPlaces, a_wishedSizes, a_shifts, a_stack, a_tree, a_seen, a_able, a_places, a_sizes, a_clipStarts, a_clipEnds, a_eventKinds, a_eventXs, a_eventYs, a_notes, a_pixels) (nI w) := by
  obtain ⟨rfl, hs⟩ := hST
  refine ⟨vp_in_nI (by omega) (by omega), nm_r (e' := upd a_stack L.length (nI w)) (by rw [pd_cl (by omega)]) (nm_r (nI_1 _) (h _ _ ⟨?_, pd_sg_e hs⟩))⟩
  rw [List.length_append, List.length_singleton]
theorem px_putl {post : SX → Prop} {w : Nat} {L : List Nat} (hST : pd_ST f_stacked a_stack L) (hl : L.length ≤ 11)
    (h : ∀ n st, pd_ST n st (w :: L) → post (n, f_treeSize, f_over, f_pressed, f_focus, f_waiting, f_noteCount, a_there, a_parents, a_kinds, a_colours, a_weights, a_gaps, a_layouts, a_values, a_effects, a_targets, a_visible, a_enabled, a_on, a_wishedPlaces, a_wishedSizes, a_shifts, st, a_tree, a_seen, a_able, a_places, a_sizes, a_clipStarts, a_clipEnds, a_eventKinds, a_eventXs, a_eventYs, a_notes, a_pixels)) : wpX_putLowest post (f_stacked, f_treeSize, f_over, f_pressed, f_focus, f_waiting, f_noteCount, a_there, a_parents, a_kinds, a_colours, a_weights, a_gaps, a_layouts, a_values, a_effects, a_targets, a_visible, a_enabled, a_on, a_wishedPlaces, a_wishedSizes, a_shifts, a_stack, a_tree, a_seen, a_able, a_places, a_sizes, a_clipStarts, a_clipEnds, a_eventKinds, a_eventXs, a_eventYs, a_notes, a_pixels) (nI w) := by
  obtain ⟨rfl, hs⟩ := hST
  have go : ∀ (d n : Nat), d ≤ L.length → d < n → wX_putLowest_5 post (nI w) (nI L.length) f_treeSize f_over f_pressed f_focus f_waiting f_noteCount n (nI d) a_there a_parents a_kinds a_colours a_weights a_gaps a_layouts a_values a_effects a_targets a_visible a_enabled a_on a_wishedPlaces a_wishedSizes a_shifts (pd_H a_stack L.length d) a_tree a_seen a_able a_places a_sizes a_clipStarts a_clipEnds a_eventKinds a_eventXs a_eventYs a_notes a_pixels := by
    intro d
    induction d with
    | zero =>
      intro n _ hn
      obtain ⟨n, rfl⟩ : ∃ m, n = m + 1 := ⟨n - 1, by omega⟩
      rw [wX_putLowest_5]
      refine br_t (Int32.le_refl _) (nm_r (e' := upd (pd_H a_stack L.length 0) 0 (nI w)) rfl (nm_r (nI_1 _) (h _ _ ⟨by rw [List.length_cons], ?_⟩)))
      have k := pd_Hsg (A := []) (B := L) (w := w) hs
      simp only [List.length_nil, Nat.zero_add, List.nil_append] at k
      exact k
    | succ d ih =>
      intro n hd hn
      obtain ⟨n, rfl⟩ : ∃ m, n = m + 1 := ⟨n - 1, by omega⟩
      rw [wX_putLowest_5]
      have e1 : nI (d + 1) - 1 = nI d := nI_pred d
      refine br_f (nI_nle (by omega) (by omega)) ⟨by rw [e1]; exact vp_in_nI (by omega) (by omega), vp_in_nI (by omega) (by omega), nm_r (e' := pd_H a_stack L.length d) ?_ (nm_r (pd_m1 d) (ih n (by omega) (by omega)))⟩
      rw [e1, pd_cl (by omega), pd_cl (by omega), pd_Hg']
      exact pd_H1 a_stack (by omega)
  have k := go L.length (L.length + 1) (Nat.le_refl _) (by omega)
  rw [pd_H0] at k
  exact ⟨L.length + 1, k⟩
theorem px_raise {post : SX → Prop} {w : Nat} {L : List Nat} (hw : w < 12) (hw0 : 0 < w) (hST : pd_ST f_stacked a_stack L) (hl : L.length ≤ 11) (hc : ∀ c, c ∈ L → c < 12)
    (h : ∀ n st, pd_ST n st (pd_rm L w ++ [w]) → post (n, f_treeSize, f_over, f_pressed, f_focus, f_waiting, f_noteCount, a_there, a_parents, a_kinds, a_colours, a_weights, a_gaps, a_layouts, a_values, a_effects, a_targets, a_visible, a_enabled, a_on, a_wishedPlaces, a_wishedSizes, a_shifts, st, a_tree, a_seen, a_able, a_places, a_sizes, a_clipStarts, a_clipEnds, a_eventKinds, a_eventXs, a_eventYs, a_notes, a_pixels)) : wpX_raise post (f_stacked, f_treeSize, f_over, f_pressed, f_focus, f_waiting, f_noteCount, a_there, a_parents, a_kinds, a_colours, a_weights, a_gaps, a_layouts, a_values, a_effects, a_targets, a_visible, a_enabled, a_on, a_wishedPlaces, a_wishedSizes, a_shifts, a_stack, a_tree, a_seen, a_able, a_places, a_sizes, a_clipStarts, a_clipEnds, a_eventKinds, a_eventXs, a_eventYs, a_notes, a_pixels) (nI w) := by
  have hr : (pd_rm L w).length ≤ 11 := Nat.le_trans (List.length_filter_le _ _) hl
  exact br_f (nI_ne0 hw0 (by omega)) (px_uns hw hST hl hc (fun n st h1 => px_puth h1 hr h))
theorem px_lower {post : SX → Prop} {w : Nat} {L : List Nat} (hw : w < 12) (hw0 : 0 < w) (hST : pd_ST f_stacked a_stack L) (hl : L.length ≤ 11) (hc : ∀ c, c ∈ L → c < 12)
    (h : ∀ n st, pd_ST n st (w :: pd_rm L w) → post (n, f_treeSize, f_over, f_pressed, f_focus, f_waiting, f_noteCount, a_there, a_parents, a_kinds, a_colours, a_weights, a_gaps, a_layouts, a_values, a_effects, a_targets, a_visible, a_enabled, a_on, a_wishedPlaces, a_wishedSizes, a_shifts, st, a_tree, a_seen, a_able, a_places, a_sizes, a_clipStarts, a_clipEnds, a_eventKinds, a_eventXs, a_eventYs, a_notes, a_pixels)) : wpX_lower post (f_stacked, f_treeSize, f_over, f_pressed, f_focus, f_waiting, f_noteCount, a_there, a_parents, a_kinds, a_colours, a_weights, a_gaps, a_layouts, a_values, a_effects, a_targets, a_visible, a_enabled, a_on, a_wishedPlaces, a_wishedSizes, a_shifts, a_stack, a_tree, a_seen, a_able, a_places, a_sizes, a_clipStarts, a_clipEnds, a_eventKinds, a_eventXs, a_eventYs, a_notes, a_pixels) (nI w) := by
  have hr : (pd_rm L w).length ≤ 11 := Nat.le_trans (List.length_filter_le _ _) hl
  exact br_f (nI_ne0 hw0 (by omega)) (px_uns hw hST hl hc (fun n st h1 => px_putl h1 hr h))
theorem px_begin {post : SX → Prop} {w : Nat} {p1 p2 p3 : Int32} (hw : w < 12)
    (h : post (f_stacked, f_treeSize, f_over, f_pressed, f_focus, f_waiting, f_noteCount, upd a_there w 1, upd a_parents w p1, upd a_kinds w p2, upd a_colours w p3, upd a_weights w 0, upd a_gaps w 0, upd a_layouts w 0, upd a_values w 0, upd a_effects w 0, upd a_targets w 0, upd a_visible w 1, upd a_enabled w 1, upd a_on w 0, a_wishedPlaces, a_wishedSizes, upd (upd a_shifts (2 * w) 0) (2 * w + 1) 0, a_stack, a_tree, a_seen, a_able, a_places, a_sizes, a_clipStarts, a_clipEnds, a_eventKinds, a_eventXs, a_eventYs, a_notes, a_pixels)) :
    wpX_begin post (f_stacked, f_treeSize, f_over, f_pressed, f_focus, f_waiting, f_noteCount, a_there, a_parents, a_kinds, a_colours, a_weights, a_gaps, a_layouts, a_values, a_effects, a_targets, a_visible, a_enabled, a_on, a_wishedPlaces, a_wishedSizes, a_shifts, a_stack, a_tree, a_seen, a_able, a_places, a_sizes, a_clipStarts, a_clipEnds, a_eventKinds, a_eventXs, a_eventYs, a_notes, a_pixels) (nI w) p1 p2 p3 := by
  have v : vp_in (nI w) 12 := vp_in_nI hw (by omega)
  have c : (nI w).toNatClampNeg = w := pd_cl (by omega)
  have v0 : vp_in (2 * nI w) 24 := by rw [pd_2]; exact vp_in_nI (by omega) (by omega)
  have c0 : (2 * nI w).toNatClampNeg = 2 * w := by rw [pd_2]; exact pd_cl (by omega)
  have v1 : vp_in (2 * nI w + 1) 24 := by rw [pd_21]; exact vp_in_nI (by omega) (by omega)
  have c1 : (2 * nI w + 1).toNatClampNeg = 2 * w + 1 := by rw [pd_21]; exact pd_cl (by omega)
  unfold wpX_begin
  rw [c, c0, c1, pd_b0, pd_b1]
  exact ⟨v, nm_e ⟨v, nm_e ⟨v, nm_e ⟨v, nm_e ⟨v, nm_e ⟨v, nm_e ⟨v, nm_e ⟨v, nm_e ⟨v, nm_e ⟨v, nm_e ⟨v, nm_e ⟨v, nm_e ⟨v, nm_e ⟨v0, nm_e ⟨v1, nm_e h⟩⟩⟩⟩⟩⟩⟩⟩⟩⟩⟩⟩⟩⟩⟩
theorem px_setw {post : SX → Prop} {w : Nat} {x y a b : Int32} (hw : w < 12)
    (h : post (f_stacked, f_treeSize, f_over, f_pressed, f_focus, f_waiting, f_noteCount, a_there, a_parents, a_kinds, a_colours, a_weights, a_gaps, a_layouts, a_values, a_effects, a_targets, a_visible, a_enabled, a_on, upd (upd a_wishedPlaces (2 * w) x) (2 * w + 1) y, upd (upd a_wishedSizes (2 * w) a) (2 * w + 1) b, a_shifts, a_stack, a_tree, a_seen, a_able, a_places, a_sizes, a_clipStarts, a_clipEnds, a_eventKinds, a_eventXs, a_eventYs, a_notes, a_pixels)) :
    wpX_setWish post (f_stacked, f_treeSize, f_over, f_pressed, f_focus, f_waiting, f_noteCount, a_there, a_parents, a_kinds, a_colours, a_weights, a_gaps, a_layouts, a_values, a_effects, a_targets, a_visible, a_enabled, a_on, a_wishedPlaces, a_wishedSizes, a_shifts, a_stack, a_tree, a_seen, a_able, a_places, a_sizes, a_clipStarts, a_clipEnds, a_eventKinds, a_eventXs, a_eventYs, a_notes, a_pixels) (nI w) x y a b := by
  have v0 : vp_in (2 * nI w) 24 := by rw [pd_2]; exact vp_in_nI (by omega) (by omega)
  have c0 : (2 * nI w).toNatClampNeg = 2 * w := by rw [pd_2]; exact pd_cl (by omega)
  have v1 : vp_in (2 * nI w + 1) 24 := by rw [pd_21]; exact vp_in_nI (by omega) (by omega)
  have c1 : (2 * nI w + 1).toNatClampNeg = 2 * w + 1 := by rw [pd_21]; exact pd_cl (by omega)
  unfold wpX_setWish
  rw [c0, c1]
  exact ⟨v0, nm_e ⟨v1, nm_e ⟨v0, nm_e ⟨v1, nm_e h⟩⟩⟩⟩
end PDQ
section PDQ2
variable {g_many g_waiting g_noteCount g_over g_pressed g_focus g_acted : Int32} {b_there b_kind b_wishX b_wishY b_wishW b_wishH b_colour b_layout b_gap b_weight b_shiftX b_shiftY b_visible b_enabled b_on b_value b_parent b_effects b_targets b_kids b_kidCount b_left b_top b_width b_height b_order b_stack b_pixels b_events b_notes : Nat → Int32}
theorem py_begin {post : SY → Prop} {w : Nat} {p1 p2 : Int32} (hw : w < 12)
    (h : post (g_many, g_waiting, g_noteCount, g_over, g_pressed, g_focus, g_acted, b_there, upd b_kind w p1, b_wishX, b_wishY, b_wishW, b_wishH, upd b_colour w p2, upd b_layout w 0, upd b_gap w 0, upd b_weight w 0, upd b_shiftX w 0, upd b_shiftY w 0, upd b_visible w 1, upd b_enabled w 1, upd b_on w 0, upd b_value w 0, b_parent, upd b_effects w 0, upd b_targets w 0, b_kids, upd b_kidCount w 0, b_left, b_top, b_width, b_height, b_order, b_stack, b_pixels, b_events, b_notes)) :
    wpY_begin post (g_many, g_waiting, g_noteCount, g_over, g_pressed, g_focus, g_acted, b_there, b_kind, b_wishX, b_wishY, b_wishW, b_wishH, b_colour, b_layout, b_gap, b_weight, b_shiftX, b_shiftY, b_visible, b_enabled, b_on, b_value, b_parent, b_effects, b_targets, b_kids, b_kidCount, b_left, b_top, b_width, b_height, b_order, b_stack, b_pixels, b_events, b_notes) (nI w) p1 p2 := by
  have v : vp_in (nI w) 12 := vp_in_nI hw (by omega)
  have c : (nI w).toNatClampNeg = w := pd_cl (by omega)
  unfold wpY_begin
  rw [c, pd_b0, pd_b1]
  exact ⟨v, nm_e ⟨v, nm_e ⟨v, nm_e ⟨v, nm_e ⟨v, nm_e ⟨v, nm_e ⟨v, nm_e ⟨v, nm_e ⟨v, nm_e ⟨v, nm_e ⟨v, nm_e ⟨v, nm_e ⟨v, nm_e ⟨v, nm_e h⟩⟩⟩⟩⟩⟩⟩⟩⟩⟩⟩⟩⟩⟩
theorem py_place {post : SY → Prop} {w : Nat} {x y a b : Int32} (hw : w < 12)
    (h : post (g_many, g_waiting, g_noteCount, g_over, g_pressed, g_focus, g_acted, b_there, b_kind, upd b_wishX w x, upd b_wishY w y, upd b_wishW w a, upd b_wishH w b, b_colour, b_layout, b_gap, b_weight, b_shiftX, b_shiftY, b_visible, b_enabled, b_on, b_value, b_parent, b_effects, b_targets, b_kids, b_kidCount, b_left, b_top, b_width, b_height, b_order, b_stack, b_pixels, b_events, b_notes)) : wpY_place post (g_many, g_waiting, g_noteCount, g_over, g_pressed, g_focus, g_acted, b_there, b_kind, b_wishX, b_wishY, b_wishW, b_wishH, b_colour, b_layout, b_gap, b_weight, b_shiftX, b_shiftY, b_visible, b_enabled, b_on, b_value, b_parent, b_effects, b_targets, b_kids, b_kidCount, b_left, b_top, b_width, b_height, b_order, b_stack, b_pixels, b_events, b_notes) (nI w) x y a b := by
  have v : vp_in (nI w) 12 := vp_in_nI hw (by omega)
  have c : (nI w).toNatClampNeg = w := pd_cl (by omega)
  unfold wpY_place
  rw [c]
  exact ⟨v, nm_e ⟨v, nm_e ⟨v, nm_e ⟨v, nm_e h⟩⟩⟩⟩
end PDQ2
/-! what the kids become -/
theorem pd_KDf {ki ki' : Nat → Int32} {p q : Nat} {K : List Nat} (hq : q ≠ p) (hl : K.length ≤ 12) (hf : ∀ j, (j < 12 * p ∨ 12 * p + 12 ≤ j) → ki' j = ki j) (h : pd_sg ki (12 * q) K) : pd_sg ki' (12 * q) K :=
  pd_sg_c K (12 * q) h (fun j h1 h2 => hf j (by omega))
theorem pd_KDr {pa kc ki ki' : Nat → Int32} {L L' : List Nat} {p : Nat} {n : Int32} (hN : L'.length ≤ 11) (hM : ∀ x, x ∈ L' ↔ x ∈ L) (hK : pd_KD pa kc ki L) (hf : ∀ j, (j < 12 * p ∨ 12 * p + 12 ≤ j) → ki' j = ki j)
    (hp : n = nI (pd_kd pa L' p).length ∧ pd_sg ki' (12 * p) (pd_kd pa L' p)) (hq : ∀ q, (q = 0 ∨ q ∈ L) → q ≠ p → pd_kd pa L' q = pd_kd pa L q) : pd_KD pa (upd kc p n) ki' L' := by
  intro q hq'
  rw [hM] at hq'
  by_cases e : q = p
  · subst e; rw [pd_us]; exact hp
  · rw [pd_un e, hq q hq' e]
    obtain ⟨h1, h2⟩ := hK q hq'
    refine ⟨h1, pd_KDf e ?_ hf h2⟩
    rw [← hq q hq' e]
    exact Nat.le_trans (Nat.le_trans (List.length_filter_le _ _) hN) (by omega)
theorem pd_SPr {L L' : List Nat} {x : Int32} (hM : ∀ x, x ∈ L' ↔ x ∈ L) (h : pd_SP L x) : pd_SP L' x :=
  h.imp id (fun ⟨w, hw, e⟩ => ⟨w, hw.imp id (fun z => (hM w).mpr z), e⟩)
