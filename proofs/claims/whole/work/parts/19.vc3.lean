section PDS
variable {f_stacked f_treeSize f_over f_pressed f_focus f_waiting f_noteCount : Int32} {a_there a_parents a_kinds a_colours a_weights a_gaps a_layouts a_values a_effects a_targets a_visible a_enabled a_on a_wishedPlaces a_wishedSizes a_shifts a_stack a_tree a_seen a_able a_places a_sizes a_clipStarts a_clipEnds a_eventKinds a_eventXs a_eventYs a_notes a_pixels : Nat → Int32}
variable {g_many g_waiting g_acted : Int32} {b_kids b_kidCount b_left b_top b_width b_height b_order b_stack b_events : Nat → Int32}
theorem px_lf2 {post : Int32 → Prop} : ∀ (d j : Nat), j + d = 12 → post (if pd_lf a_there d j = 12 then -1 else nI (pd_lf a_there d j)) → wX_leastFree_2 post f_stacked f_treeSize f_over f_pressed f_focus f_waiting f_noteCount a_there a_parents a_kinds a_colours a_weights a_gaps a_layouts a_values a_effects a_targets a_visible a_enabled a_on a_wishedPlaces a_wishedSizes a_shifts a_stack a_tree a_seen a_able a_places a_sizes a_clipStarts a_clipEnds a_eventKinds a_eventXs a_eventYs a_notes a_pixels (d + 1) (nI j) := by
  intro d
  induction d with
  | zero =>
    intro j hj h
    have e : pd_lf a_there 0 j = 12 := hj
    rw [if_pos e] at h
    rw [wX_leastFree_2]
    exact br_t (nI_le (a := 12) (by omega) (by omega)) h
  | succ d ih =>
    intro j hj h
    rw [wX_leastFree_2]
    refine br_f (nI_ge (b := 12) (by omega) (by omega)) ⟨vp_in_nI (by omega) (by omega), ?_⟩
    rw [pd_cl (by omega)]
    by_cases c : a_there j = 0
    · have e : pd_lf a_there (d + 1) j = j := if_pos c
      rw [e, if_neg (show ¬ j = 12 by omega)] at h
      exact br_t c h
    · have e : pd_lf a_there (d + 1) j = pd_lf a_there d (j + 1) := if_neg c
      rw [e] at h
      exact br_f c (nm_r (nI_1 j) (ih (j + 1) (by omega) h))
theorem py_lf46 {post : Int32 → SY → Prop} {p0 p1 p2 p3 p4 p5 p6 : Int32} : ∀ (d j : Nat), j + d = 12 → wY_make_69 post p0 p1 p2 p3 p4 p5 p6 (nI (pd_lf a_there d j)) g_many g_waiting f_noteCount f_over f_pressed f_focus g_acted a_there a_kinds (fun j => a_wishedPlaces (2 * j)) (fun j => a_wishedPlaces (2 * j + 1)) (fun j => a_wishedSizes (2 * j)) (fun j => a_wishedSizes (2 * j + 1)) a_colours a_layouts a_gaps a_weights (fun j => a_shifts (2 * j)) (fun j => a_shifts (2 * j + 1)) a_visible a_enabled a_on a_values a_parents a_effects a_targets b_kids b_kidCount b_left b_top b_width b_height b_order b_stack a_pixels b_events a_notes → wY_make_46 post p0 p1 p2 p3 p4 p5 p6 g_many g_waiting f_noteCount f_over f_pressed f_focus g_acted a_there a_kinds (fun j => a_wishedPlaces (2 * j)) (fun j => a_wishedPlaces (2 * j + 1)) (fun j => a_wishedSizes (2 * j)) (fun j => a_wishedSizes (2 * j + 1)) a_colours a_layouts a_gaps a_weights (fun j => a_shifts (2 * j)) (fun j => a_shifts (2 * j + 1)) a_visible a_enabled a_on a_values a_parents a_effects a_targets b_kids b_kidCount b_left b_top b_width b_height b_order b_stack a_pixels b_events a_notes (d + 1) (nI j) := by
  intro d
  induction d with
  | zero =>
    intro j hj h
    rw [wY_make_46]
    exact br_t (nI_le (a := 12) (by omega) (by omega)) h
  | succ d ih =>
    intro j hj h
    rw [wY_make_46]
    refine br_f (nI_ge (b := 12) (by omega) (by omega)) ⟨vp_in_nI (by omega) (by omega), ?_⟩
    rw [pd_cl (by omega)]
    simp only [pd_lf] at h
    by_cases c : a_there j = 0
    · rw [if_pos c] at h
      exact br_t c h
    · rw [if_neg c] at h
      exact br_f c (nm_r (nI_1 j) (ih (j + 1) (by omega) h))
theorem pd_wi01 (x l g : Int32) : pd_wi x l g = 0 ∨ pd_wi x l g = 1 := by
  unfold pd_wi
  by_cases a : x < l
  · exact Or.inl (if_pos a)
  · rw [if_neg a]
    by_cases b : g < x
    · exact Or.inl (if_pos b)
    · exact Or.inr (if_neg b)
def pd_acc (p0 p1 p2 : Int32) : Prop := (∃ k, k ≤ 2 ∧ p0 = nI k ∧ ¬ pd_wi p1 (-8) 39 = 0 ∧ ¬ pd_wi p2 (-8) 23 = 0) ∨ (p0 = nI 3 ∧ ¬ pd_wi p1 0 9 = 0) ∨ p0 = nI 4
theorem pd_accK {p0 p1 p2 : Int32} (h : pd_acc p0 p1 p2) : ∃ j, j ≤ 4 ∧ p0 = nI j := by
  rcases h with ⟨k, hk, e, _⟩ | ⟨e, _⟩ | e
  · exact ⟨k, by omega, e⟩
  · exact ⟨3, by omega, e⟩
  · exact ⟨4, by omega, e⟩
theorem pd_acc2 {j : Nat} {p1 p2 : Int32} (hj : j ≤ 2) (h : pd_acc (nI j) p1 p2) : ¬ pd_wi p1 (-8) 39 = 0 ∧ ¬ pd_wi p2 (-8) 23 = 0 := by
  rcases h with ⟨k, hk, e, h⟩ | ⟨e, _⟩ | e
  · exact h
  · have := pd_im e (by omega) (by omega); omega
  · have := pd_im e (by omega) (by omega); omega
theorem pd_acc3 {p1 p2 : Int32} (h : pd_acc (nI 3) p1 p2) : ¬ pd_wi p1 0 9 = 0 := by
  rcases h with ⟨k, hk, e, h⟩ | ⟨e, h⟩ | e
  · have := pd_im e (by omega) (by omega); omega
  · exact h
  · have := pd_im e (by omega) (by omega); omega
theorem px_ev36 {post : Int32 → Prop} {j : Nat} {p1 p2 : Int32} (hj : j ≤ 2) (hA : pd_acc (nI j) p1 p2 → post 1) (hR : ¬ pd_acc (nI j) p1 p2 → post 0) : wX_isEvent_36 post p1 p2 := by
  unfold wX_isEvent_36
  refine px_wi ?_
  by_cases a : pd_wi p1 (-8) 39 = 0
  · exact br_t a (hR (fun z => (pd_acc2 hj z).1 a))
  · refine br_f a (px_wi ?_)
    by_cases b : pd_wi p2 (-8) 23 = 0
    · exact br_t b (hR (fun z => (pd_acc2 hj z).2 b))
    · exact br_f b (hA (Or.inl ⟨j, hj, rfl, a, b⟩))
theorem px_ev {post : Int32 → Prop} {p0 p1 p2 : Int32} (hA : pd_acc p0 p1 p2 → post 1) (hR : ¬ pd_acc p0 p1 p2 → post 0) : wpX_isEvent post p0 p1 p2 := by
  by_cases a : p0 < 0
  · refine br_t a (hR (fun z => ?_))
    obtain ⟨j, hj, rfl⟩ := pd_accK z
    exact nI_pos (by omega) a
  · by_cases b : 4 < p0
    · refine br_f a (br_t b (hR (fun z => ?_)))
      obtain ⟨j, hj, rfl⟩ := pd_accK z
      exact nI_nlt (a := 4) (b := j) hj (by omega) b
    · refine br_f a (br_f b ?_)
      obtain ⟨j, hj, rfl⟩ := nI_of2 (n := 4) (M := 4) (by decide) a (Int32.not_lt.mp b)
      have hz : j = 0 ∨ j = 1 ∨ j = 2 ∨ j = 3 ∨ j = 4 := by omega
      rcases hz with rfl | rfl | rfl | rfl | rfl
      · exact br_t (by decide) (px_ev36 (by omega) hA hR)
      · exact br_f (by decide) (br_t (by decide) (px_ev36 (by omega) hA hR))
      · exact br_f (by decide) (br_f (by decide) (br_t (by decide) (px_ev36 (by omega) hA hR)))
      · refine br_f (by decide) (br_f (by decide) (br_f (by decide) (br_t (by decide) (px_wi ?_))))
        rcases pd_wi01 p1 0 9 with e | e
        · rw [e]; exact ⟨rfl, hR (fun z => pd_acc3 z e)⟩
        · rw [e]; exact ⟨rfl, hA (Or.inr (Or.inl ⟨rfl, by rw [e]; decide⟩))⟩
      · exact br_f (by decide) (br_f (by decide) (br_f (by decide) (br_f (by decide) (br_t (by decide) (hA (Or.inr (Or.inr rfl)))))))
theorem py_ev {post : Int32 → SY → Prop} {p0 p1 p2 : Int32} (hA : pd_acc p0 p1 p2 → wY_post_65 post p0 p1 p2 g_many g_waiting f_noteCount f_over f_pressed f_focus g_acted a_there a_kinds (fun j => a_wishedPlaces (2 * j)) (fun j => a_wishedPlaces (2 * j + 1)) (fun j => a_wishedSizes (2 * j)) (fun j => a_wishedSizes (2 * j + 1)) a_colours a_layouts a_gaps a_weights (fun j => a_shifts (2 * j)) (fun j => a_shifts (2 * j + 1)) a_visible a_enabled a_on a_values a_parents a_effects a_targets b_kids b_kidCount b_left b_top b_width b_height b_order b_stack a_pixels b_events a_notes) (hR : ¬ pd_acc p0 p1 p2 → post (-1) (g_many, g_waiting, f_noteCount, f_over, f_pressed, f_focus, g_acted, a_there, a_kinds, (fun j => a_wishedPlaces (2 * j)), (fun j => a_wishedPlaces (2 * j + 1)), (fun j => a_wishedSizes (2 * j)), (fun j => a_wishedSizes (2 * j + 1)), a_colours, a_layouts, a_gaps, a_weights, (fun j => a_shifts (2 * j)), (fun j => a_shifts (2 * j + 1)), a_visible, a_enabled, a_on, a_values, a_parents, a_effects, a_targets, b_kids, b_kidCount, b_left, b_top, b_width, b_height, b_order, b_stack, a_pixels, b_events, a_notes)) : wpY_post post (g_many, g_waiting, f_noteCount, f_over, f_pressed, f_focus, g_acted, a_there, a_kinds, (fun j => a_wishedPlaces (2 * j)), (fun j => a_wishedPlaces (2 * j + 1)), (fun j => a_wishedSizes (2 * j)), (fun j => a_wishedSizes (2 * j + 1)), a_colours, a_layouts, a_gaps, a_weights, (fun j => a_shifts (2 * j)), (fun j => a_shifts (2 * j + 1)), a_visible, a_enabled, a_on, a_values, a_parents, a_effects, a_targets, b_kids, b_kidCount, b_left, b_top, b_width, b_height, b_order, b_stack, a_pixels, b_events, a_notes) p0 p1 p2 := by
  unfold wpY_post
  refine py_wi ?_
  by_cases a : pd_wi p0 0 2 = 0
  · refine br_t a (br_t rfl ?_)
    by_cases c4 : p0 = 4
    · exact br_t c4 (hA (Or.inr (Or.inr c4)))
    · by_cases c3 : p0 = 3
      · subst c3
        refine br_f c4 (br_t rfl (py_wi ?_))
        by_cases c : pd_wi p1 0 9 = 0
        · exact br_t c (hR (fun z => pd_acc3 z c))
        · exact br_f c (hA (Or.inr (Or.inl ⟨rfl, c⟩)))
      · refine br_f c4 (br_f c3 (hR (fun z => ?_)))
        rcases z with ⟨k, hk, e, _⟩ | ⟨e, _⟩ | e
        · rw [e, pd_wiS (g := 2) (n := 2) rfl (by omega) (nI_pos' (by omega)) (nI_lt (by omega) (by omega))] at a
          exact absurd a (by decide)
        · exact c3 e
        · exact c4 e
  · obtain ⟨j, hj, rfl⟩ := pd_wiN (n := 2) (by decide) a
    have n4 : ¬ nI j = 4 := fun z => by have := pd_im (b := 4) z (by omega) (by omega); omega
    have n3 : ¬ nI j = 3 := fun z => by have := pd_im (b := 3) z (by omega) (by omega); omega
    refine br_f a (py_wi ?_)
    by_cases b : pd_wi p1 (-8) 39 = 0
    · exact br_t b (br_t rfl (br_f n4 (br_f n3 (hR (fun z => (pd_acc2 hj z).1 b)))))
    · refine br_f b (py_wi ?_)
      by_cases c : pd_wi p2 (-8) 23 = 0
      · exact br_t c (br_t rfl (br_f n4 (br_f n3 (hR (fun z => (pd_acc2 hj z).2 c)))))
      · exact br_f c (br_f (by decide) (hA (Or.inl ⟨j, hj, rfl, b, c⟩)))
theorem px_sev {post : SX → Prop} {z : Nat} {k x y : Int32} (hz : z < 16) (h : post (f_stacked, f_treeSize, f_over, f_pressed, f_focus, f_waiting, f_noteCount, a_there, a_parents, a_kinds, a_colours, a_weights, a_gaps, a_layouts, a_values, a_effects, a_targets, a_visible, a_enabled, a_on, a_wishedPlaces, a_wishedSizes, a_shifts, a_stack, a_tree, a_seen, a_able, a_places, a_sizes, a_clipStarts, a_clipEnds, upd a_eventKinds z k, upd a_eventXs z x, upd a_eventYs z y, a_notes, a_pixels)) : wpX_setEvent post (f_stacked, f_treeSize, f_over, f_pressed, f_focus, f_waiting, f_noteCount, a_there, a_parents, a_kinds, a_colours, a_weights, a_gaps, a_layouts, a_values, a_effects, a_targets, a_visible, a_enabled, a_on, a_wishedPlaces, a_wishedSizes, a_shifts, a_stack, a_tree, a_seen, a_able, a_places, a_sizes, a_clipStarts, a_clipEnds, a_eventKinds, a_eventXs, a_eventYs, a_notes, a_pixels) (nI z) k x y := by
  have v : vp_in (nI z) 16 := vp_in_nI hz (by omega)
  have c : (nI z).toNatClampNeg = z := pd_cl (by omega)
  exact ⟨v, nm_r (e' := upd a_eventKinds z k) (by rw [c]) ⟨v, nm_r (e' := upd a_eventXs z x) (by rw [c]) ⟨v, nm_r (e' := upd a_eventYs z y) (by rw [c]) h⟩⟩⟩
theorem py_141 {post : Int32 → SY → Prop} {z : Nat} {k x y : Int32} (hz : z < 16) (h : post g_waiting (g_many, g_waiting, f_noteCount, f_over, f_pressed, f_focus, g_acted, a_there, a_kinds, (fun j => a_wishedPlaces (2 * j)), (fun j => a_wishedPlaces (2 * j + 1)), (fun j => a_wishedSizes (2 * j)), (fun j => a_wishedSizes (2 * j + 1)), a_colours, a_layouts, a_gaps, a_weights, (fun j => a_shifts (2 * j)), (fun j => a_shifts (2 * j + 1)), a_visible, a_enabled, a_on, a_values, a_parents, a_effects, a_targets, b_kids, b_kidCount, b_left, b_top, b_width, b_height, b_order, b_stack, a_pixels, upd (upd (upd b_events (3 * z) k) (3 * z + 1) x) (3 * z + 2) y, a_notes)) : wY_post_141 post k x y (nI z) g_many g_waiting f_noteCount f_over f_pressed f_focus g_acted a_there a_kinds (fun j => a_wishedPlaces (2 * j)) (fun j => a_wishedPlaces (2 * j + 1)) (fun j => a_wishedSizes (2 * j)) (fun j => a_wishedSizes (2 * j + 1)) a_colours a_layouts a_gaps a_weights (fun j => a_shifts (2 * j)) (fun j => a_shifts (2 * j + 1)) a_visible a_enabled a_on a_values a_parents a_effects a_targets b_kids b_kidCount b_left b_top b_width b_height b_order b_stack a_pixels b_events a_notes := by
  have e0 : 3 * nI z = nI (3 * z) := pd_3 z
  have e1 : 3 * nI z + 1 = nI (3 * z + 1) := by rw [e0, nI_1]
  have e2 : 3 * nI z + 2 = nI (3 * z + 2) := by rw [e0]; exact nI_add (3 * z) 2
  exact ⟨by rw [e0]; exact vp_in_nI (by omega) (by omega), nm_r (e' := upd b_events (3 * z) k) (by rw [e0, pd_cl (by omega)]) ⟨by rw [e1]; exact vp_in_nI (by omega) (by omega), nm_r (e' := upd (upd b_events (3 * z) k) (3 * z + 1) x) (by rw [e1, pd_cl (by omega)]) ⟨by rw [e2]; exact vp_in_nI (by omega) (by omega), nm_r (e' := upd (upd (upd b_events (3 * z) k) (3 * z + 1) x) (3 * z + 2) y) (by rw [e2, pd_cl (by omega)]) h⟩⟩⟩
theorem pd_QUs {q z k : Nat} {x y : Int32} {ek ex ey ev : Nat → Int32} (h : ∀ i, i < q → (∃ k, k ≤ 4 ∧ ek i = nI k) ∧ ev (3 * i) = ek i ∧ ev (3 * i + 1) = ex i ∧ ev (3 * i + 2) = ey i) (hk : k ≤ 4) :
    ∀ i, (i < q ∨ i = z) → (∃ k', k' ≤ 4 ∧ upd ek z (nI k) i = nI k') ∧ upd (upd (upd ev (3 * z) (nI k)) (3 * z + 1) x) (3 * z + 2) y (3 * i) = upd ek z (nI k) i ∧ upd (upd (upd ev (3 * z) (nI k)) (3 * z + 1) x) (3 * z + 2) y (3 * i + 1) = upd ex z x i ∧ upd (upd (upd ev (3 * z) (nI k)) (3 * z + 1) x) (3 * z + 2) y (3 * i + 2) = upd ey z y i := by
  intro i hi
  by_cases e : i = z
  · subst e
    rw [pd_us, pd_us, pd_us, pd_un (by omega), pd_un (by omega), pd_us, pd_un (by omega), pd_us, pd_us]
    exact ⟨⟨k, hk, rfl⟩, rfl, rfl, rfl⟩
  · rw [pd_un e, pd_un e, pd_un e, pd_un (by omega), pd_un (by omega), pd_un (by omega), pd_un (by omega), pd_un (by omega), pd_un (by omega), pd_un (by omega), pd_un (by omega), pd_un (by omega)]
    exact h i (hi.resolve_right e)
end PDS
theorem i_vc_post {k : Nat} {u : SX} {v : SY} (I : i_Rel k u v) (hk : k + 8 ≤ 4096) (v1 : Int32) (v2 : Int32) (v3 : Int32) : wpX_post (fun r u' => wpY_post (fun r' v' => r' = r ∧ i_Rel (k + 8) u' v') v v1 v2 v3) u v1 v2 v3 := by
  have I' : i_Rel (k + 8) u v := I
  obtain ⟨L, rk, M, D⟩ := I
  obtain ⟨f_stacked, f_treeSize, f_over, f_pressed, f_focus, f_waiting, f_noteCount, a_there, a_parents, a_kinds, a_colours, a_weights, a_gaps, a_layouts, a_values, a_effects, a_targets, a_visible, a_enabled, a_on, a_wishedPlaces, a_wishedSizes, a_shifts, a_stack, a_tree, a_seen, a_able, a_places, a_sizes, a_clipStarts, a_clipEnds, a_eventKinds, a_eventXs, a_eventYs, a_notes, a_pixels⟩ := u
  obtain ⟨g_many, g_waiting, g_acted, b_kids, b_kidCount, b_left, b_top, b_width, b_height, b_order, b_stack, b_events, rfl, hB, hS, hK, hV, ho, hpr, hf, hq⟩ := M
  have D0 : pd_DE a_parents a_wishedPlaces a_wishedSizes a_shifts a_visible a_enabled a_layouts a_gaps a_weights L f_treeSize a_tree a_seen a_able a_places a_sizes a_clipStarts a_clipEnds := D
  obtain ⟨q, hq16, rfl, rfl, hE⟩ := hq
  unfold wpX_post
  refine px_ev (fun acc => br_f (by decide) ?_) (fun nacc => br_t rfl (py_ev (fun z => absurd z nacc) (fun _ => ⟨rfl, I'⟩)))
  obtain ⟨j, hj, rfl⟩ := pd_accK acc
  have app : ∀ hno : (nI j = 0 → 0 < q → ¬ a_eventKinds (q - 1) = 0), wX_post_54 (fun r u' => wpY_post (fun r' v' => r' = r ∧ i_Rel (k + 8) u' v') (g_many, nI q, f_noteCount, f_over, f_pressed, f_focus, g_acted, a_there, a_kinds, (fun j => a_wishedPlaces (2 * j)), (fun j => a_wishedPlaces (2 * j + 1)), (fun j => a_wishedSizes (2 * j)), (fun j => a_wishedSizes (2 * j + 1)), a_colours, a_layouts, a_gaps, a_weights, (fun j => a_shifts (2 * j)), (fun j => a_shifts (2 * j + 1)), a_visible, a_enabled, a_on, a_values, a_parents, a_effects, a_targets, b_kids, b_kidCount, b_left, b_top, b_width, b_height, b_order, b_stack, a_pixels, b_events, a_notes) (nI j) v2 v3) (nI j) v2 v3 f_stacked f_treeSize f_over f_pressed f_focus (nI q) f_noteCount a_there a_parents a_kinds a_colours a_weights a_gaps a_layouts a_values a_effects a_targets a_visible a_enabled a_on a_wishedPlaces a_wishedSizes a_shifts a_stack a_tree a_seen a_able a_places a_sizes a_clipStarts a_clipEnds a_eventKinds a_eventXs a_eventYs a_notes a_pixels := by
    intro hno
    have y97 : ∀ post : Int32 → SY → Prop, wY_post_97 post (nI j) v2 v3 0 g_many (nI q) f_noteCount f_over f_pressed f_focus g_acted a_there a_kinds (fun j => a_wishedPlaces (2 * j)) (fun j => a_wishedPlaces (2 * j + 1)) (fun j => a_wishedSizes (2 * j)) (fun j => a_wishedSizes (2 * j + 1)) a_colours a_layouts a_gaps a_weights (fun j => a_shifts (2 * j)) (fun j => a_shifts (2 * j + 1)) a_visible a_enabled a_on a_values a_parents a_effects a_targets b_kids b_kidCount b_left b_top b_width b_height b_order b_stack a_pixels b_events a_notes → wY_post_65 post (nI j) v2 v3 g_many (nI q) f_noteCount f_over f_pressed f_focus g_acted a_there a_kinds (fun j => a_wishedPlaces (2 * j)) (fun j => a_wishedPlaces (2 * j + 1)) (fun j => a_wishedSizes (2 * j)) (fun j => a_wishedSizes (2 * j + 1)) a_colours a_layouts a_gaps a_weights (fun j => a_shifts (2 * j)) (fun j => a_shifts (2 * j + 1)) a_visible a_enabled a_on a_values a_parents a_effects a_targets b_kids b_kidCount b_left b_top b_width b_height b_order b_stack a_pixels b_events a_notes := by
      intro post h97
      by_cases c0 : nI j = 0
      · refine br_t c0 ?_
        by_cases cq : q = 0
        · exact br_t (by rw [cq]; exact Int32.le_refl _) h97
        · have e3 : 3 * nI q - 3 = nI (3 * (q - 1)) := by
            rw [pd_3, show 3 * (q - 1) = 3 * q - 3 by omega]; exact pd_sub (a := 3 * q) (b := 3) (by omega)
          refine br_f (nI_nle (by omega) (by omega)) ⟨by rw [e3]; exact vp_in_nI (by omega) (by omega), ?_⟩
          rw [e3, pd_cl (by omega), (hE (q - 1) (by omega)).2.1]
          exact br_f (hno c0 (by omega)) h97
      · exact br_f c0 h97
    by_cases cf : q < 16
    · refine br_t (nI_lt (b := 16) cf (by decide)) (px_sev cf (nm_r (nI_1 q) ?_))
      refine py_ev (fun _ => y97 _ ?_) (fun z => absurd acc z)
      refine br_f (fun z => by have := pd_im (b := 16) z (by omega) (by omega); omega) (br_t rfl (nm_r (nI_1 q) (py_141 cf ⟨rfl, ?_⟩)))
      exact pd_mk hB hS hK hV ho hpr hf ⟨q + 1, by omega, rfl, rfl, fun i hi => pd_QUs hE hj i (by omega)⟩ D0
    · have e16 : q = 16 := by omega
      subst e16
      refine br_f (by decide) ?_
      exact py_ev (fun _ => y97 _ (br_t (by decide) (br_t rfl ⟨rfl, I'⟩))) (fun z => absurd acc z)
  by_cases c0 : nI j = 0
  · refine br_t c0 ?_
    by_cases cq : q = 0
    · exact br_t (by rw [cq]; exact Int32.le_refl _) (app (fun _ z => by omega))
    · have e1 : nI q - 1 = nI (q - 1) := pd_s (by omega)
      refine br_f (nI_nle (by omega) (by omega)) ⟨by rw [e1]; exact vp_in_nI (by omega) (by omega), ?_⟩
      rw [e1, pd_cl (n := q - 1) (by omega)]
      by_cases ce : a_eventKinds (q - 1) = 0
      · refine br_t ce (px_sev (by omega) ?_)
        refine py_ev (fun _ => br_t c0 (br_f (nI_nle (by omega) (by omega)) ?_)) (fun z => absurd acc z)
        have e3 : 3 * nI q - 3 = nI (3 * (q - 1)) := by
          rw [pd_3, show 3 * (q - 1) = 3 * q - 3 by omega]; exact pd_sub (a := 3 * q) (b := 3) (by omega)
        refine ⟨by rw [e3]; exact vp_in_nI (by omega) (by omega), ?_⟩
        rw [e3, pd_cl (by omega), (hE (q - 1) (by omega)).2.1]
        have f116 : wY_post_116 (fun r' v' => r' = nI q ∧ i_Rel (k + 8) (f_stacked, f_treeSize, f_over, f_pressed, f_focus, nI q, f_noteCount, a_there, a_parents, a_kinds, a_colours, a_weights, a_gaps, a_layouts, a_values, a_effects, a_targets, a_visible, a_enabled, a_on, a_wishedPlaces, a_wishedSizes, a_shifts, a_stack, a_tree, a_seen, a_able, a_places, a_sizes, a_clipStarts, a_clipEnds, upd a_eventKinds (q - 1) (nI j), upd a_eventXs (q - 1) v2, upd a_eventYs (q - 1) v3, a_notes, a_pixels) v') (nI j) v2 v3 1 g_many (nI q) f_noteCount f_over f_pressed f_focus g_acted a_there a_kinds (fun j => a_wishedPlaces (2 * j)) (fun j => a_wishedPlaces (2 * j + 1)) (fun j => a_wishedSizes (2 * j)) (fun j => a_wishedSizes (2 * j + 1)) a_colours a_layouts a_gaps a_weights (fun j => a_shifts (2 * j)) (fun j => a_shifts (2 * j + 1)) a_visible a_enabled a_on a_values a_parents a_effects a_targets b_kids b_kidCount b_left b_top b_width b_height b_order b_stack a_pixels b_events a_notes := by
          refine br_f (by decide) ?_
          rw [e1]
          refine py_141 (by omega) ⟨rfl, ?_⟩
          exact pd_mk hB hS hK hV ho hpr hf ⟨q, hq16, rfl, rfl, fun i hi => pd_QUs hE hj i (by omega)⟩ D0
        exact br_t ce (br_c (fun _ => br_f (by decide) f116) (fun _ => f116))
      · exact br_f ce (app (fun _ _ => ce))
  · exact br_f c0 (app (fun z => absurd z c0))
