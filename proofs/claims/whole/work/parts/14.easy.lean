section PDN
variable {f_stacked f_treeSize f_over f_pressed f_focus f_waiting f_noteCount : Int32} {a_there a_parents a_kinds a_colours a_weights a_gaps a_layouts a_values a_effects a_targets a_visible a_enabled a_on a_wishedPlaces a_wishedSizes a_shifts a_stack a_tree a_seen a_able a_places a_sizes a_clipStarts a_clipEnds a_eventKinds a_eventXs a_eventYs a_notes a_pixels : Nat → Int32}
variable {g_many g_waiting g_acted : Int32} {b_kids b_kidCount b_left b_top b_width b_height b_order b_stack b_events : Nat → Int32}
/-! V: what arguments may be, on both sides -/
def pd_wi (x l g : Int32) : Int32 := if x < l then 0 else if g < x then 0 else 1
theorem px_wi {post : Int32 → Prop} {x l g : Int32} (h : post (pd_wi x l g)) : wpX_isWithin post x l g := by
  unfold pd_wi at h
  by_cases a : x < l
  · rw [if_pos a] at h; exact br_t a h
  · rw [if_neg a] at h
    by_cases b : g < x
    · rw [if_pos b] at h; exact br_f a (br_t b h)
    · rw [if_neg b] at h; exact br_f a (br_f b h)
theorem py_wi {post : Int32 → Prop} {x l g : Int32} (h : post (pd_wi x l g)) : wpY_within post x l g := by
  unfold pd_wi at h
  by_cases a : x < l
  · rw [if_pos a] at h; exact br_t a h
  · rw [if_neg a] at h
    by_cases b : g < x
    · rw [if_pos b] at h; exact br_f a (br_t b h)
    · rw [if_neg b] at h; exact br_f a (br_f b h)
theorem pd_wi1 {x l g : Int32} (h : ¬ pd_wi x l g = 0) : ¬ x < l ∧ x ≤ g := by
  unfold pd_wi at h
  by_cases a : x < l
  · rw [if_pos a] at h; exact absurd rfl h
  · rw [if_neg a] at h
    by_cases b : g < x
    · rw [if_pos b] at h; exact absurd rfl h
    · exact ⟨a, Int32.not_lt.mp b⟩
theorem pd_wiN {x g : Int32} {n : Nat} (hg : g.toInt = n) (h : ¬ pd_wi x 0 g = 0) : ∃ k, k ≤ n ∧ x = nI k := by
  obtain ⟨a, b⟩ := pd_wi1 h
  exact nI_of2 hg a b
def pd_is (th : Nat → Int32) (x : Int32) : Int32 := if x < 0 then 0 else if 12 ≤ x then 0 else if th x.toNatClampNeg = 0 then 0 else 1
theorem px_is {post : Int32 → Prop} {x : Int32} (h : post (pd_is a_there x)) : wpX_isThere post (f_stacked, f_treeSize, f_over, f_pressed, f_focus, f_waiting, f_noteCount, a_there, a_parents, a_kinds, a_colours, a_weights, a_gaps, a_layouts, a_values, a_effects, a_targets, a_visible, a_enabled, a_on, a_wishedPlaces, a_wishedSizes, a_shifts, a_stack, a_tree, a_seen, a_able, a_places, a_sizes, a_clipStarts, a_clipEnds, a_eventKinds, a_eventXs, a_eventYs, a_notes, a_pixels) x := by
  unfold pd_is at h
  by_cases a : x < 0
  · rw [if_pos a] at h; exact br_t a h
  · rw [if_neg a] at h
    by_cases b : 12 ≤ x
    · rw [if_pos b] at h; exact br_f a (br_t b h)
    · rw [if_neg b] at h
      obtain ⟨w, hw, e⟩ := pd_isx (Int32.not_lt.mp a) (Int32.not_le.mp b)
      have v : vp_in x 12 := by rw [e]; exact vp_in_nI hw (by omega)
      by_cases c : a_there x.toNatClampNeg = 0
      · rw [if_pos c] at h; exact br_f a (br_f b ⟨v, br_t c h⟩)
      · rw [if_neg c] at h; exact br_f a (br_f b ⟨v, br_f c h⟩)
theorem py_is {post : Int32 → Prop} {x : Int32} (h : post (pd_is a_there x)) : wpY_is post (g_many, g_waiting, f_noteCount, f_over, f_pressed, f_focus, g_acted, a_there, a_kinds, (fun j => a_wishedPlaces (2 * j)), (fun j => a_wishedPlaces (2 * j + 1)), (fun j => a_wishedSizes (2 * j)), (fun j => a_wishedSizes (2 * j + 1)), a_colours, a_layouts, a_gaps, a_weights, (fun j => a_shifts (2 * j)), (fun j => a_shifts (2 * j + 1)), a_visible, a_enabled, a_on, a_values, a_parents, a_effects, a_targets, b_kids, b_kidCount, b_left, b_top, b_width, b_height, b_order, b_stack, a_pixels, b_events, a_notes) x := by
  unfold pd_is at h
  by_cases a : x < 0
  · rw [if_pos a] at h; exact br_t a h
  · rw [if_neg a] at h
    by_cases b : 12 ≤ x
    · rw [if_pos b] at h; exact br_f a (br_t b h)
    · rw [if_neg b] at h
      obtain ⟨w, hw, e⟩ := pd_isx (Int32.not_lt.mp a) (Int32.not_le.mp b)
      have v : vp_in x 12 := by rw [e]; exact vp_in_nI hw (by omega)
      by_cases c : a_there x.toNatClampNeg = 0
      · rw [if_pos c] at h; exact br_f a (br_f b ⟨v, br_t c h⟩)
      · rw [if_neg c] at h; exact br_f a (br_f b ⟨v, br_f c h⟩)
theorem pd_is1 {th : Nat → Int32} {x : Int32} (h : ¬ pd_is th x = 0) : ∃ w, w < 12 ∧ x = nI w ∧ th w ≠ 0 := by
  unfold pd_is at h
  by_cases a : x < 0
  · rw [if_pos a] at h; exact absurd rfl h
  · rw [if_neg a] at h
    by_cases b : 12 ≤ x
    · rw [if_pos b] at h; exact absurd rfl h
    · rw [if_neg b] at h
      obtain ⟨w, hw, e⟩ := pd_isx (Int32.not_lt.mp a) (Int32.not_le.mp b)
      subst e
      rw [pd_cl (by omega)] at h
      refine ⟨w, hw, rfl, fun c => ?_⟩
      rw [if_pos c] at h
      exact h rfl
def pd_wh (x y w h : Int32) : Int32 := if pd_wi x (-40) 40 = 0 then 0 else if pd_wi y (-40) 40 = 0 then 0 else if pd_wi w 1 32 = 0 then 0 else if pd_wi h 1 32 = 0 then 0 else 1
theorem px_wh {post : Int32 → Prop} {x y w z : Int32} (h : post (pd_wh x y w z)) : wpX_isWish post x y w z := by
  unfold pd_wh at h
  unfold wpX_isWish
  refine px_wi ?_
  by_cases a : pd_wi x (-40) 40 = 0
  · rw [if_pos a] at h; exact br_t a h
  · rw [if_neg a] at h
    refine br_f a (px_wi ?_)
    by_cases b : pd_wi y (-40) 40 = 0
    · rw [if_pos b] at h; exact br_t b h
    · rw [if_neg b] at h
      refine br_f b (px_wi ?_)
      by_cases c : pd_wi w 1 32 = 0
      · rw [if_pos c] at h; exact br_t c h
      · rw [if_neg c] at h
        refine br_f c (px_wi ?_)
        by_cases d : pd_wi z 1 32 = 0
        · rw [if_pos d] at h; exact br_t d h
        · rw [if_neg d] at h; exact br_f d h
theorem py_wh {post : Int32 → Prop} {x y w z : Int32} (h : post (pd_wh x y w z)) : wpY_fits post x y w z := by
  unfold pd_wh at h
  unfold wpY_fits
  refine py_wi ?_
  by_cases a : pd_wi x (-40) 40 = 0
  · rw [if_pos a] at h; exact br_t a h
  · rw [if_neg a] at h
    refine br_f a (py_wi ?_)
    by_cases b : pd_wi y (-40) 40 = 0
    · rw [if_pos b] at h; exact br_t b h
    · rw [if_neg b] at h
      refine br_f b (py_wi ?_)
      by_cases c : pd_wi w 1 32 = 0
      · rw [if_pos c] at h; exact br_t c h
      · rw [if_neg c] at h
        refine br_f c (py_wi ?_)
        by_cases d : pd_wi z 1 32 = 0
        · rw [if_pos d] at h; exact br_t d h
        · rw [if_neg d] at h; exact br_f d h
end PDN
/-! W: the methods that only look -/
theorem i_vc_special {k : Nat} {u : SX} {v : SY} (I : i_Rel k u v) (hk : k + 8 ≤ 4096) (v1 : Int32) : wpX_special (fun r => wpY_special (fun r' => r' = r ∧ i_Rel (k + 8) u v) v v1) u v1 := by
  have I' : i_Rel (k + 8) u v := I
  obtain ⟨L, rk, M, D⟩ := I
  obtain ⟨f_stacked, f_treeSize, f_over, f_pressed, f_focus, f_waiting, f_noteCount, a_there, a_parents, a_kinds, a_colours, a_weights, a_gaps, a_layouts, a_values, a_effects, a_targets, a_visible, a_enabled, a_on, a_wishedPlaces, a_wishedSizes, a_shifts, a_stack, a_tree, a_seen, a_able, a_places, a_sizes, a_clipStarts, a_clipEnds, a_eventKinds, a_eventXs, a_eventYs, a_notes, a_pixels⟩ := u
  obtain ⟨g_many, g_waiting, g_acted, b_kids, b_kidCount, b_left, b_top, b_width, b_height, b_order, b_stack, b_events, rfl, hB, hS, hK, hV, ho, hpr, hf, hq⟩ := M
  by_cases a : v1 < 0
  · have n0 : ¬ v1 = 0 := fun z => by rw [z] at a; exact absurd a (by decide)
    have n1 : ¬ v1 = 1 := fun z => by rw [z] at a; exact absurd a (by decide)
    have n2 : ¬ v1 = 2 := fun z => by rw [z] at a; exact absurd a (by decide)
    exact br_t a (br_f n0 (br_f n1 (br_f n2 ⟨rfl, I'⟩)))
  · by_cases b : 2 < v1
    · have n0 : ¬ v1 = 0 := fun z => by rw [z] at b; exact absurd b (by decide)
      have n1 : ¬ v1 = 1 := fun z => by rw [z] at b; exact absurd b (by decide)
      have n2 : ¬ v1 = 2 := fun z => by rw [z] at b; exact absurd b (by decide)
      exact br_f a (br_t b (br_f n0 (br_f n1 (br_f n2 ⟨rfl, I'⟩))))
    · refine br_f a (br_f b ?_)
      by_cases n0 : v1 = 0
      · exact br_t n0 (br_t n0 ⟨rfl, I'⟩)
      · by_cases n1 : v1 = 1
        · exact br_f n0 (br_t n1 (br_f n0 (br_t n1 ⟨rfl, I'⟩)))
        · by_cases n2 : v1 = 2
          · exact br_f n0 (br_f n1 (br_t n2 (br_f n0 (br_f n1 (br_t n2 ⟨rfl, I'⟩)))))
          · exact br_f n0 (br_f n1 (br_f n2 trivial))
theorem i_vc_noted {k : Nat} {u : SX} {v : SY} (I : i_Rel k u v) (hk : k + 8 ≤ 4096) (v1 : Int32) : wpX_noted (fun r => wpY_noted (fun r' => r' = r ∧ i_Rel (k + 8) u v) v v1) u v1 := by
  have I' : i_Rel (k + 8) u v := I
  obtain ⟨L, rk, M, D⟩ := I
  obtain ⟨f_stacked, f_treeSize, f_over, f_pressed, f_focus, f_waiting, f_noteCount, a_there, a_parents, a_kinds, a_colours, a_weights, a_gaps, a_layouts, a_values, a_effects, a_targets, a_visible, a_enabled, a_on, a_wishedPlaces, a_wishedSizes, a_shifts, a_stack, a_tree, a_seen, a_able, a_places, a_sizes, a_clipStarts, a_clipEnds, a_eventKinds, a_eventXs, a_eventYs, a_notes, a_pixels⟩ := u
  obtain ⟨g_many, g_waiting, g_acted, b_kids, b_kidCount, b_left, b_top, b_width, b_height, b_order, b_stack, b_events, rfl, hB, hS, hK, hV, ho, hpr, hf, hq⟩ := M
  have vI : vp_in (((f_noteCount - 1) - v1) &&& 15) 16 := pk_andIn _ (m := 15) 4 (by decide) (by decide)
  by_cases a : v1 = -1
  · exact br_t a (br_t a ⟨rfl, I'⟩)
  · refine br_f a (px_wi ?_)
    by_cases b : pd_wi v1 0 15 = 0
    · exact br_t b (br_f a (py_wi (br_t b ⟨rfl, I'⟩)))
    · refine br_f b ?_
      by_cases c : v1 < f_noteCount
      · exact br_t c ⟨vI, br_f a (py_wi (br_f b (br_t c ⟨vI, rfl, I'⟩)))⟩
      · exact br_f c (br_f a (py_wi (br_f b (br_f c ⟨rfl, I'⟩))))
theorem i_vc_pixel {k : Nat} {u : SX} {v : SY} (I : i_Rel k u v) (hk : k + 8 ≤ 4096) (v1 : Int32) (v2 : Int32) : wpX_pixel (fun r => wpY_pixel (fun r' => r' = r ∧ i_Rel (k + 8) u v) v v1 v2) u v1 v2 := by
  have I' : i_Rel (k + 8) u v := I
  obtain ⟨L, rk, M, D⟩ := I
  obtain ⟨f_stacked, f_treeSize, f_over, f_pressed, f_focus, f_waiting, f_noteCount, a_there, a_parents, a_kinds, a_colours, a_weights, a_gaps, a_layouts, a_values, a_effects, a_targets, a_visible, a_enabled, a_on, a_wishedPlaces, a_wishedSizes, a_shifts, a_stack, a_tree, a_seen, a_able, a_places, a_sizes, a_clipStarts, a_clipEnds, a_eventKinds, a_eventXs, a_eventYs, a_notes, a_pixels⟩ := u
  obtain ⟨g_many, g_waiting, g_acted, b_kids, b_kidCount, b_left, b_top, b_width, b_height, b_order, b_stack, b_events, rfl, hB, hS, hK, hV, ho, hpr, hf, hq⟩ := M
  unfold wpX_pixel wpY_pixel wpY_isPixel
  refine px_wi ?_
  by_cases a : pd_wi v1 0 31 = 0
  · exact br_t a (py_wi (br_t a (br_t rfl ⟨rfl, I'⟩)))
  · refine br_f a (px_wi ?_)
    by_cases b : pd_wi v2 0 15 = 0
    · exact br_t b (py_wi (br_f a (py_wi (br_t b (br_t rfl ⟨rfl, I'⟩)))))
    · obtain ⟨x, hx, ex⟩ := pd_wiN (n := 31) (by decide) a
      obtain ⟨y, hy, ey⟩ := pd_wiN (n := 15) (by decide) b
      have vI : vp_in (32 * v2 + v1) 512 := by
        rw [ex, ey, show (32 : Int32) = nI 32 from rfl, pd_mul, nI_add]
        exact vp_in_nI (by omega) (by omega)
      exact br_f b ⟨vI, py_wi (br_f a (py_wi (br_f b (br_f (by decide) ⟨vI, rfl, I'⟩))))⟩
