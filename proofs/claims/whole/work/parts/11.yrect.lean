section PDK
variable {f_stacked f_treeSize f_over f_pressed f_focus f_waiting f_noteCount : Int32} {a_there a_parents a_kinds a_colours a_weights a_gaps a_layouts a_values a_effects a_targets a_visible a_enabled a_on a_wishedPlaces a_wishedSizes a_shifts a_stack a_tree a_seen a_able a_places a_sizes a_clipStarts a_clipEnds a_eventKinds a_eventXs a_eventYs a_notes a_pixels : Nat → Int32}
variable {g_many g_waiting g_acted : Int32} {b_kids b_kidCount b_left b_top b_width b_height b_order b_stack b_events : Nat → Int32}
/-! S: Y: rectangles() -/
def pd_YA (G : Nat → pd_V) (lf tp wd hg : Nat → Int32) (c : Nat) : Prop := lf c = (G c).1 0 ∧ tp c = (G c).1 1 ∧ wd c = (G c).2.1 0 ∧ hg c = (G c).2.1 1
theorem pd_YAu (G : Nat → pd_V) (lf tp wd hg : Nat → Int32) (c : Nat) : pd_YA G (upd lf c ((G c).1 0)) (upd tp c ((G c).1 1)) (upd wd c ((G c).2.1 0)) (upd hg c ((G c).2.1 1)) c := ⟨pd_us, pd_us, pd_us, pd_us⟩
theorem pd_YAm (G : Nat → pd_V) (lf tp wd hg : Nat → Int32) (c : Nat) : ∀ d, pd_YA G lf tp wd hg d → pd_YA G (upd lf c ((G c).1 0)) (upd tp c ((G c).1 1)) (upd wd c ((G c).2.1 0)) (upd hg c ((G c).2.1 1)) d := by
  intro d h
  by_cases e : d = c
  · subst e; exact pd_YAu G lf tp wd hg d
  · exact ⟨(pd_un e).trans h.1, (pd_un e).trans h.2.1, (pd_un e).trans h.2.2.1, (pd_un e).trans h.2.2.2⟩
theorem py_free5 {post : SY → Prop} {p N : Nat} {G : Nat → pd_V} (hp : p < 12) (hN : N ≤ 12) (hk : b_kidCount p = nI N) :
    ∀ (R : List Nat) (i n : Nat) (lf tp wd hg : Nat → Int32), pd_sg b_kids (12 * p + i) R → i + R.length = N → R.length < n → (∀ c, c ∈ R → c < 12) → pd_YA G lf tp wd hg p →
    (∀ c, c ∈ R → ∀ a, (G c).1 a = (G p).1 a + a_wishedPlaces (2 * c + a) - a_shifts (2 * p + a) ∧ (G c).2.1 a = a_wishedSizes (2 * c + a)) →
    (∀ lf' tp' wd' hg', (∀ c, pd_YA G lf tp wd hg c → pd_YA G lf' tp' wd' hg' c) → (∀ c, c ∈ R → pd_YA G lf' tp' wd' hg' c) → post (g_many, g_waiting, f_noteCount, f_over, f_pressed, f_focus, g_acted, a_there, a_kinds, (fun j => a_wishedPlaces (2 * j)), (fun j => a_wishedPlaces (2 * j + 1)), (fun j => a_wishedSizes (2 * j)), (fun j => a_wishedSizes (2 * j + 1)), a_colours, a_layouts, a_gaps, a_weights, (fun j => a_shifts (2 * j)), (fun j => a_shifts (2 * j + 1)), a_visible, a_enabled, a_on, a_values, a_parents, a_effects, a_targets, b_kids, b_kidCount, lf', tp', wd', hg', b_order, b_stack, a_pixels, b_events, a_notes)) →
    wY_free_5 post (nI p) g_many g_waiting f_noteCount f_over f_pressed f_focus g_acted n (nI (12 * p + i)) a_there a_kinds (fun j => a_wishedPlaces (2 * j)) (fun j => a_wishedPlaces (2 * j + 1)) (fun j => a_wishedSizes (2 * j)) (fun j => a_wishedSizes (2 * j + 1)) a_colours a_layouts a_gaps a_weights (fun j => a_shifts (2 * j)) (fun j => a_shifts (2 * j + 1)) a_visible a_enabled a_on a_values a_parents a_effects a_targets b_kids b_kidCount lf tp wd hg b_order b_stack a_pixels b_events a_notes := by
  have vp : vp_in (nI p) 12 := vp_in_nI hp (by omega)
  have cp : (nI p).toNatClampNeg = p := pd_cl (by omega)
  intro R
  induction R with
  | nil =>
    intro i n lf tp wd hg _ hi hn _ _ _ h
    obtain ⟨n, rfl⟩ : ∃ m, n = m + 1 := ⟨n - 1, by omega⟩
    have hi' : i = N := hi
    rw [wY_free_5]
    dsimp only
    rw [cp, hk, pd_12b]
    exact ⟨vp, br_t (by rw [hi']; exact Int32.le_refl _) (h lf tp wd hg (fun _ z => z) (fun c hc => by cases hc))⟩
  | cons c R ih =>
    intro i n lf tp wd hg hs hi hn hc hA hg' h
    obtain ⟨n, rfl⟩ : ∃ m, n = m + 1 := ⟨n - 1, by omega⟩
    rw [List.length_cons] at hi hn
    have hc12 : c < 12 := hc c (List.mem_cons_self ..)
    have vc : vp_in (nI c) 12 := vp_in_nI hc12 (by omega)
    have cc : (nI c).toNatClampNeg = c := pd_cl (by omega)
    have h0 := hg' c (List.mem_cons_self ..) 0
    have h1 := hg' c (List.mem_cons_self ..) 1
    rw [wY_free_5]
    dsimp only
    rw [cp, hk, pd_12b]
    refine ⟨vp, br_f (nI_ge (by omega) (by omega)) ⟨vp_in_nI (by omega) (by omega), nm_r (e' := nI c) (by rw [pd_cl (by omega)]; exact hs.1) ?_⟩⟩
    refine ⟨vp, vc, vp, vc, nm_r (e' := upd lf c ((G c).1 0)) (by rw [cc, hA.1]; exact congrArg (upd lf c) h0.1.symm) ?_⟩
    refine ⟨vp, vc, vp, vc, nm_r (e' := upd tp c ((G c).1 1)) (by rw [cc, hA.2.1]; exact congrArg (upd tp c) h1.1.symm) ?_⟩
    refine ⟨vc, vc, nm_r (e' := upd wd c ((G c).2.1 0)) (by rw [cc]; exact congrArg (upd wd c) h0.2.symm) ?_⟩
    refine ⟨vc, vc, nm_r (e' := upd hg c ((G c).2.1 1)) (by rw [cc]; exact congrArg (upd hg c) h1.2.symm) (nm_r (nI_1 _) ?_)⟩
    refine ih (i + 1) n _ _ _ _ hs.2 (by omega) (by omega) (fun d hd => hc d (List.mem_cons_of_mem _ hd)) (pd_YAm G lf tp wd hg c p hA) (fun d hd => hg' d (List.mem_cons_of_mem _ hd)) (fun lf' tp' wd' hg2 m k => ?_)
    refine h lf' tp' wd' hg2 (fun d hd => m d (pd_YAm G lf tp wd hg c d hd)) (fun d hd => ?_)
    cases List.mem_cons.mp hd with
    | inl e => subst e; exact m d (pd_YAu G lf tp wd hg d)
    | inr e => exact k d e
theorem py_arr400 {post : SY → Prop} {J : _} {p c a i : Nat} {x3 x4 o s x9 v1 v2 v3 v4 : Int32} {lf tp wd hg : Nat → Int32} {G : Nat → pd_V} (hp : p < 12) (hc : c < 12) (ha : a < 2) (hA : pd_YA G lf tp wd hg p) (hne : p ≠ c)
    (h1 : (G c).1 a = s) (h2 : (G c).2.1 a = x9) (h3 : (G c).1 (1 - a) = (G p).1 (1 - a) - a_shifts (2 * p + (1 - a))) (h4 : (G c).2.1 (1 - a) = (G p).2.1 (1 - a))
    (h : J o (s + (x9 + a_gaps p)) (nI (i + 1)) a_there a_kinds (fun j => a_wishedPlaces (2 * j)) (fun j => a_wishedPlaces (2 * j + 1)) (fun j => a_wishedSizes (2 * j)) (fun j => a_wishedSizes (2 * j + 1)) a_colours a_layouts a_gaps a_weights (fun j => a_shifts (2 * j)) (fun j => a_shifts (2 * j + 1)) a_visible a_enabled a_on a_values a_parents a_effects a_targets b_kids b_kidCount (upd lf c ((G c).1 0)) (upd tp c ((G c).1 1)) (upd wd c ((G c).2.1 0)) (upd hg c ((G c).2.1 1)) b_order b_stack a_pixels b_events a_notes) :
    wY_arranged_400 post J (nI p) (nI (1 - a)) x3 x4 o s (nI i) (nI c) x9 g_many g_waiting f_noteCount f_over f_pressed f_focus g_acted a_there a_kinds (fun j => a_wishedPlaces (2 * j)) (fun j => a_wishedPlaces (2 * j + 1)) (fun j => a_wishedSizes (2 * j)) (fun j => a_wishedSizes (2 * j + 1)) a_colours a_layouts a_gaps a_weights (fun j => a_shifts (2 * j)) (fun j => a_shifts (2 * j + 1)) a_visible a_enabled a_on a_values a_parents a_effects a_targets b_kids b_kidCount (upd lf c v1) (upd tp c v2) (upd wd c v3) (upd hg c v4) b_order b_stack a_pixels b_events a_notes := by
  have vp : vp_in (nI p) 12 := vp_in_nI hp (by omega)
  have cp : (nI p).toNatClampNeg = p := pd_cl (by omega)
  have vc : vp_in (nI c) 12 := vp_in_nI hc (by omega)
  have cc : (nI c).toNatClampNeg = c := pd_cl (by omega)
  have hz : a = 0 ∨ a = 1 := by omega
  rcases hz with rfl | rfl
  · have q : ¬ nI (1 - 0) = 0 := by decide
    refine br_f q ⟨vc, nm_r (e' := upd lf c ((G c).1 0)) (by rw [cc, pd_uu, h1]) (br_f q ⟨vp, vp, vc, nm_r (e' := upd tp c ((G c).1 1)) (by rw [cc, cp, pd_uu, pd_un hne, hA.2.1]; exact congrArg (upd tp c) h3.symm) (br_f q ⟨vc, nm_r (e' := upd wd c ((G c).2.1 0)) (by rw [cc, pd_uu, h2]) (br_f q ⟨vp, vc, nm_r (e' := upd hg c ((G c).2.1 1)) (by rw [cc, cp, pd_uu, pd_un hne, hA.2.2.2]; exact congrArg (upd hg c) h4.symm) ⟨vp, nm_r (e' := s + (x9 + a_gaps p)) (by rw [cp]) (nm_r (nI_1 i) h)⟩⟩)⟩)⟩)⟩
  · have q : nI (1 - 1) = 0 := by decide
    refine br_t q ⟨vp, vp, vc, nm_r (e' := upd lf c ((G c).1 0)) (by rw [cc, cp, pd_uu, pd_un hne, hA.1]; exact congrArg (upd lf c) h3.symm) (br_t q ⟨vc, nm_r (e' := upd tp c ((G c).1 1)) (by rw [cc, pd_uu, h1]) (br_t q ⟨vp, vc, nm_r (e' := upd wd c ((G c).2.1 0)) (by rw [cc, cp, pd_uu, pd_un hne, hA.2.2.1]; exact congrArg (upd wd c) h4.symm) (br_t q ⟨vc, nm_r (e' := upd hg c ((G c).2.1 1)) (by rw [cc, pd_uu, h2]) ⟨vp, nm_r (e' := s + (x9 + a_gaps p)) (by rw [cp]) (nm_r (nI_1 i) h)⟩⟩)⟩)⟩)⟩
theorem py_arr355 {post : SY → Prop} {J : _} {p c a i : Nat} {x3 x4 o s z0 : Int32} {lf tp wd hg : Nat → Int32} (hc : c < 12)
    (h1 : 0 < a_weights c ∧ 0 < o → wY_arranged_400 post J (nI p) (nI (1 - a)) x3 x4 (o + (-1)) s (nI i) (nI c) (z0 + pd_sh x3 x4 (a_weights c) + 1) g_many g_waiting f_noteCount f_over f_pressed f_focus g_acted a_there a_kinds (fun j => a_wishedPlaces (2 * j)) (fun j => a_wishedPlaces (2 * j + 1)) (fun j => a_wishedSizes (2 * j)) (fun j => a_wishedSizes (2 * j + 1)) a_colours a_layouts a_gaps a_weights (fun j => a_shifts (2 * j)) (fun j => a_shifts (2 * j + 1)) a_visible a_enabled a_on a_values a_parents a_effects a_targets b_kids b_kidCount lf tp wd hg b_order b_stack a_pixels b_events a_notes)
    (h2 : ¬ (0 < a_weights c ∧ 0 < o) → wY_arranged_400 post J (nI p) (nI (1 - a)) x3 x4 o s (nI i) (nI c) (z0 + pd_sh x3 x4 (a_weights c)) g_many g_waiting f_noteCount f_over f_pressed f_focus g_acted a_there a_kinds (fun j => a_wishedPlaces (2 * j)) (fun j => a_wishedPlaces (2 * j + 1)) (fun j => a_wishedSizes (2 * j)) (fun j => a_wishedSizes (2 * j + 1)) a_colours a_layouts a_gaps a_weights (fun j => a_shifts (2 * j)) (fun j => a_shifts (2 * j + 1)) a_visible a_enabled a_on a_values a_parents a_effects a_targets b_kids b_kidCount lf tp wd hg b_order b_stack a_pixels b_events a_notes) :
    wY_arranged_355 post J (nI p) (nI (1 - a)) x3 x4 o s (nI i) (nI c) z0 g_many g_waiting f_noteCount f_over f_pressed f_focus g_acted a_there a_kinds (fun j => a_wishedPlaces (2 * j)) (fun j => a_wishedPlaces (2 * j + 1)) (fun j => a_wishedSizes (2 * j)) (fun j => a_wishedSizes (2 * j + 1)) a_colours a_layouts a_gaps a_weights (fun j => a_shifts (2 * j)) (fun j => a_shifts (2 * j + 1)) a_visible a_enabled a_on a_values a_parents a_effects a_targets b_kids b_kidCount lf tp wd hg b_order b_stack a_pixels b_events a_notes := by
  have vc : vp_in (nI c) 12 := vp_in_nI hc (by omega)
  have cc : (nI c).toNatClampNeg = c := pd_cl (by omega)
  have f : ∀ q, q = pd_sh x3 x4 (a_weights c) → wY_arranged_376 post J (nI p) (nI (1 - a)) x3 x4 o s (nI i) (nI c) q z0 g_many g_waiting f_noteCount f_over f_pressed f_focus g_acted a_there a_kinds (fun j => a_wishedPlaces (2 * j)) (fun j => a_wishedPlaces (2 * j + 1)) (fun j => a_wishedSizes (2 * j)) (fun j => a_wishedSizes (2 * j + 1)) a_colours a_layouts a_gaps a_weights (fun j => a_shifts (2 * j)) (fun j => a_shifts (2 * j + 1)) a_visible a_enabled a_on a_values a_parents a_effects a_targets b_kids b_kidCount lf tp wd hg b_order b_stack a_pixels b_events a_notes := by
    intro q eq
    subst eq
    refine nm_e ⟨vc, ?_⟩
    rw [cc]
    by_cases hw : a_weights c ≤ 0
    · exact br_t hw (h2 (fun z => absurd z.1 (Int32.not_lt.mpr hw)))
    · by_cases ho : o ≤ 0
      · exact br_f hw (br_t ho (h2 (fun z => absurd z.2 (Int32.not_lt.mpr ho))))
      · exact br_f hw (br_f ho (nm_e (nm_e (h1 ⟨Int32.not_le.mp hw, Int32.not_le.mp ho⟩))))
  by_cases b : x4 ≤ 0
  · exact br_t b (f 0 (by unfold pd_sh; rw [if_neg (Int32.not_lt.mpr b)]))
  · refine br_f b ⟨vc, fun z => b (by rw [z]; exact Int32.le_refl _), f _ (by unfold pd_sh; rw [cc, if_pos (Int32.not_le.mp b)])⟩
theorem py_arr245 {post : SY → Prop} {p a N : Nat} {x3 x4 : Int32} {G : Nat → pd_V} (hp : p < 12) (ha : a < 2) (hN : N ≤ 12) (hk : b_kidCount p = nI N) :
    ∀ (R : List Nat) (i n : Nat) (o s : Int32) (lf tp wd hg : Nat → Int32), pd_sg b_kids (12 * p + i) R → i + R.length = N → R.length < n → (∀ c, c ∈ R → c < 12 ∧ p ≠ c) → pd_YA G lf tp wd hg p →
    (∀ c, c ∈ R → a_visible c = 0 → ∀ b, (G c).1 b = (G p).1 b ∧ (G c).2.1 b = a_wishedSizes (2 * c + b)) →
    (∀ c, c ∈ R → ¬ a_visible c = 0 → (G c).1 (1 - a) = (G p).1 (1 - a) - a_shifts (2 * p + (1 - a)) ∧ (G c).2.1 (1 - a) = (G p).2.1 (1 - a)) →
    pd_PL a_wishedSizes a_weights a_visible a x3 x4 (a_gaps p) (fun c => ((G c).1 a, (G c).2.1 a)) R o s →
    (∀ lf' tp' wd' hg', (∀ c, pd_YA G lf tp wd hg c → pd_YA G lf' tp' wd' hg' c) → (∀ c, c ∈ R → pd_YA G lf' tp' wd' hg' c) → post (g_many, g_waiting, f_noteCount, f_over, f_pressed, f_focus, g_acted, a_there, a_kinds, (fun j => a_wishedPlaces (2 * j)), (fun j => a_wishedPlaces (2 * j + 1)), (fun j => a_wishedSizes (2 * j)), (fun j => a_wishedSizes (2 * j + 1)), a_colours, a_layouts, a_gaps, a_weights, (fun j => a_shifts (2 * j)), (fun j => a_shifts (2 * j + 1)), a_visible, a_enabled, a_on, a_values, a_parents, a_effects, a_targets, b_kids, b_kidCount, lf', tp', wd', hg', b_order, b_stack, a_pixels, b_events, a_notes)) →
    wY_arranged_245 post (nI p) (nI (1 - a)) x3 x4 g_many g_waiting f_noteCount f_over f_pressed f_focus g_acted n o s (nI (12 * p + i)) a_there a_kinds (fun j => a_wishedPlaces (2 * j)) (fun j => a_wishedPlaces (2 * j + 1)) (fun j => a_wishedSizes (2 * j)) (fun j => a_wishedSizes (2 * j + 1)) a_colours a_layouts a_gaps a_weights (fun j => a_shifts (2 * j)) (fun j => a_shifts (2 * j + 1)) a_visible a_enabled a_on a_values a_parents a_effects a_targets b_kids b_kidCount lf tp wd hg b_order b_stack a_pixels b_events a_notes := by
  have vp : vp_in (nI p) 12 := vp_in_nI hp (by omega)
  have cp : (nI p).toNatClampNeg = p := pd_cl (by omega)
  intro R
  induction R with
  | nil =>
    intro i n o s lf tp wd hg _ hi hn _ _ _ _ _ h
    obtain ⟨n, rfl⟩ : ∃ m, n = m + 1 := ⟨n - 1, by omega⟩
    have hi' : i = N := hi
    rw [wY_arranged_245]
    dsimp only
    rw [cp, hk, pd_12b]
    exact ⟨vp, br_t (by rw [hi']; exact Int32.le_refl _) (h lf tp wd hg (fun _ z => z) (fun c hc => by cases hc))⟩
  | cons c R ih =>
    intro i n o s lf tp wd hg hs hi hn hc hA hH hV hPL h
    obtain ⟨n, rfl⟩ : ∃ m, n = m + 1 := ⟨n - 1, by omega⟩
    rw [List.length_cons] at hi hn
    obtain ⟨hc12, hne⟩ := hc c (List.mem_cons_self ..)
    have vc : vp_in (nI c) 12 := vp_in_nI hc12 (by omega)
    have cc : (nI c).toNatClampNeg = c := pd_cl (by omega)
    have fin : ∀ o1 s1, pd_PL a_wishedSizes a_weights a_visible a x3 x4 (a_gaps p) (fun c => ((G c).1 a, (G c).2.1 a)) R o1 s1 →
        wY_arranged_245 post (nI p) (nI (1 - a)) x3 x4 g_many g_waiting f_noteCount f_over f_pressed f_focus g_acted n o1 s1 (nI (12 * p + i + 1)) a_there a_kinds (fun j => a_wishedPlaces (2 * j)) (fun j => a_wishedPlaces (2 * j + 1)) (fun j => a_wishedSizes (2 * j)) (fun j => a_wishedSizes (2 * j + 1)) a_colours a_layouts a_gaps a_weights (fun j => a_shifts (2 * j)) (fun j => a_shifts (2 * j + 1)) a_visible a_enabled a_on a_values a_parents a_effects a_targets b_kids b_kidCount (upd lf c ((G c).1 0)) (upd tp c ((G c).1 1)) (upd wd c ((G c).2.1 0)) (upd hg c ((G c).2.1 1)) b_order b_stack a_pixels b_events a_notes := by
      intro o1 s1 hPL1
      refine ih (i + 1) n o1 s1 _ _ _ _ hs.2 (by omega) (by omega) (fun d hd => hc d (List.mem_cons_of_mem _ hd)) (pd_YAm G lf tp wd hg c p hA) (fun d hd => hH d (List.mem_cons_of_mem _ hd)) (fun d hd => hV d (List.mem_cons_of_mem _ hd)) hPL1 (fun lf' tp' wd' hg2 m k => ?_)
      refine h lf' tp' wd' hg2 (fun d hd => m d (pd_YAm G lf tp wd hg c d hd)) (fun d hd => ?_)
      cases List.mem_cons.mp hd with
      | inl e => subst e; exact m d (pd_YAu G lf tp wd hg d)
      | inr e => exact k d e
    rw [wY_arranged_245]
    dsimp only
    rw [cp, hk, pd_12b]
    refine ⟨vp, br_f (nI_ge (by omega) (by omega)) ⟨vp_in_nI (by omega) (by omega), nm_r (e' := nI c) (by rw [pd_cl (by omega)]; exact hs.1) ?_⟩⟩
    refine ⟨vp, vc, nm_r (e' := upd lf c ((G p).1 0)) (by rw [cc, hA.1]) ⟨vp, vc, nm_r (e' := upd tp c ((G p).1 1)) (by rw [cc, hA.2.1]) ⟨vc, vc, nm_r (e' := upd wd c (a_wishedSizes (2 * c + 0))) (by rw [cc]; rfl) ⟨vc, vc, nm_r (e' := upd hg c (a_wishedSizes (2 * c + 1))) (by rw [cc]) ⟨vc, ?_⟩⟩⟩⟩⟩
    rw [cc]
    by_cases hv : a_visible c = 0
    · have e0 := hH c (List.mem_cons_self ..) hv 0
      have e1 := hH c (List.mem_cons_self ..) hv 1
      refine br_t hv (nm_r (nI_1 _) ?_)
      have k := fin o s (hPL.1 hv)
      rw [e0.1, e0.2, e1.1, e1.2] at k
      exact k
    · obtain ⟨e3, e4⟩ := hV c (List.mem_cons_self ..) hv
      refine br_f hv ?_
      have f355 : ∀ z0, z0 = a_wishedSizes (2 * c + a) → wY_arranged_355 post (wY_arranged_245 post (nI p) (nI (1 - a)) x3 x4 g_many g_waiting f_noteCount f_over f_pressed f_focus g_acted n) (nI p) (nI (1 - a)) x3 x4 o s (nI (12 * p + i)) (nI c) z0 g_many g_waiting f_noteCount f_over f_pressed f_focus g_acted a_there a_kinds (fun j => a_wishedPlaces (2 * j)) (fun j => a_wishedPlaces (2 * j + 1)) (fun j => a_wishedSizes (2 * j)) (fun j => a_wishedSizes (2 * j + 1)) a_colours a_layouts a_gaps a_weights (fun j => a_shifts (2 * j)) (fun j => a_shifts (2 * j + 1)) a_visible a_enabled a_on a_values a_parents a_effects a_targets b_kids b_kidCount (upd lf c ((G p).1 0)) (upd tp c ((G p).1 1)) (upd wd c (a_wishedSizes (2 * c + 0))) (upd hg c (a_wishedSizes (2 * c + 1))) b_order b_stack a_pixels b_events a_notes := by
        intro z0 ez
        subst ez
        refine py_arr355 hc12 (fun y => ?_) (fun y => ?_)
        · obtain ⟨g1, g2⟩ := hPL.2.1 hv y
          exact py_arr400 (G := G) hp hc12 ha hA hne (congrArg Prod.fst g1) (congrArg Prod.snd g1) e3 e4 (fin _ _ g2)
        · obtain ⟨g1, g2⟩ := hPL.2.2 hv y
          exact py_arr400 (G := G) hp hc12 ha hA hne (congrArg Prod.fst g1) (congrArg Prod.snd g1) e3 e4 (fin _ _ g2)
      have hz : a = 0 ∨ a = 1 := by omega
      rcases hz with rfl | rfl
      · exact br_f (by decide) ⟨vc, f355 _ rfl⟩
      · exact br_t (by decide) ⟨vc, f355 _ rfl⟩
end PDK
