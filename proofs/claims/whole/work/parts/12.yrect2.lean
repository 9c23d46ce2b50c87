section PDL
variable {f_stacked f_treeSize f_over f_pressed f_focus f_waiting f_noteCount : Int32} {a_there a_parents a_kinds a_colours a_weights a_gaps a_layouts a_values a_effects a_targets a_visible a_enabled a_on a_wishedPlaces a_wishedSizes a_shifts a_stack a_tree a_seen a_able a_places a_sizes a_clipStarts a_clipEnds a_eventKinds a_eventXs a_eventYs a_notes a_pixels : Nat → Int32}
variable {g_many g_waiting g_acted : Int32} {b_kids b_kidCount b_left b_top b_width b_height b_order b_stack b_events : Nat → Int32}
def pd_ys (we vi : Nat → Int32) (lo sw : Int32) : List Nat → Int32 → Int32
  | [], m => m
  | c :: R, m => pd_ys we vi lo sw R (if vi c = 0 then m else m - pd_sh lo sw (we c))
theorem pd_ys_x {we vi : Nat → Int32} {lo sw l : Int32} : ∀ (R : List Nat) (m s : Int32), m = l - s → pd_ys we vi lo sw R m = l - pd_ss we vi lo sw R s
  | [], m, s, h => h
  | c :: R, m, s, h => by
    simp only [pd_ys, pd_ss]
    by_cases hv : vi c = 0
    · rw [if_pos hv, if_pos hv]; exact pd_ys_x R m s h
    · rw [if_neg hv, if_neg hv]
      refine pd_ys_x R _ _ ?_
      rw [h]
      generalize pd_sh lo sw (we c) = z
      grind
theorem py_arr140 {post : SY → Prop} {p a N : Nat} {x3 x4 : Int32} {G : Nat → pd_V} (hp : p < 12) (ha : a < 2) (hN : N ≤ 12) (hk : b_kidCount p = nI N) (hA : pd_YA G b_left b_top b_width b_height p) :
    ∀ (R : List Nat) (i n : Nat) (m : Int32), pd_sg b_kids (12 * p + i) R → i + R.length = N → R.length < n → (∀ c, c ∈ R → c < 12) →
    (∃ n245, wY_arranged_245 post (nI p) (nI (1 - a)) x3 x4 g_many g_waiting f_noteCount f_over f_pressed f_focus g_acted n245 (pd_ys a_weights a_visible x3 x4 R m) ((G p).1 a - a_shifts (2 * p + a)) (nI (12 * p)) a_there a_kinds (fun j => a_wishedPlaces (2 * j)) (fun j => a_wishedPlaces (2 * j + 1)) (fun j => a_wishedSizes (2 * j)) (fun j => a_wishedSizes (2 * j + 1)) a_colours a_layouts a_gaps a_weights (fun j => a_shifts (2 * j)) (fun j => a_shifts (2 * j + 1)) a_visible a_enabled a_on a_values a_parents a_effects a_targets b_kids b_kidCount b_left b_top b_width b_height b_order b_stack a_pixels b_events a_notes) →
    wY_arranged_140 post (nI p) (nI (1 - a)) x3 x4 g_many g_waiting f_noteCount f_over f_pressed f_focus g_acted a_there a_kinds (fun j => a_wishedPlaces (2 * j)) (fun j => a_wishedPlaces (2 * j + 1)) (fun j => a_wishedSizes (2 * j)) (fun j => a_wishedSizes (2 * j + 1)) a_colours a_layouts a_gaps a_weights (fun j => a_shifts (2 * j)) (fun j => a_shifts (2 * j + 1)) a_visible a_enabled a_on a_values a_parents a_effects a_targets b_kids b_kidCount b_left b_top b_width b_height b_order b_stack a_pixels b_events a_notes n m (nI (12 * p + i)) := by
  have vp : vp_in (nI p) 12 := vp_in_nI hp (by omega)
  have cp : (nI p).toNatClampNeg = p := pd_cl (by omega)
  intro R
  induction R with
  | nil =>
    intro i n m _ hi hn _ h
    obtain ⟨n, rfl⟩ : ∃ k, n = k + 1 := ⟨n - 1, by omega⟩
    have hi' : i = N := hi
    rw [wY_arranged_140]
    dsimp only
    rw [cp, hk, pd_12b]
    refine ⟨vp, br_t (by rw [hi']; exact Int32.le_refl _) ?_⟩
    have hz : a = 0 ∨ a = 1 := by omega
    rcases hz with rfl | rfl
    · exact br_f (by decide) ⟨vp, vp, nm_r (e' := (G p).1 0 - a_shifts (2 * p + 0)) (by rw [hA.1]; rfl) (nm_r (pd_12 p) h)⟩
    · exact br_t (by decide) ⟨vp, vp, nm_r (e' := (G p).1 1 - a_shifts (2 * p + 1)) (by rw [hA.2.1]) (nm_r (pd_12 p) h)⟩
  | cons c R ih =>
    intro i n m hs hi hn hc h
    obtain ⟨n, rfl⟩ : ∃ k, n = k + 1 := ⟨n - 1, by omega⟩
    rw [List.length_cons] at hi hn
    have hc12 : c < 12 := hc c (List.mem_cons_self ..)
    have vc : vp_in (nI c) 12 := vp_in_nI hc12 (by omega)
    have cc : (nI c).toNatClampNeg = c := pd_cl (by omega)
    have vi : vp_in (nI (12 * p + i)) 144 := vp_in_nI (by omega) (by omega)
    have ek : b_kids (nI (12 * p + i)).toNatClampNeg = nI c := by rw [pd_cl (by omega)]; exact hs.1
    have hcR : ∀ d, d ∈ R → d < 12 := fun d hd => hc d (List.mem_cons_of_mem _ hd)
    rw [wY_arranged_140]
    dsimp only
    rw [cp, hk, pd_12b, ek, cc]
    refine ⟨vp, br_f (nI_ge (by omega) (by omega)) ⟨vi, vc, ?_⟩⟩
    by_cases hv : a_visible c = 0
    · simp only [pd_ys, if_pos hv] at h
      exact br_t hv (nm_r (nI_1 _) (ih (i + 1) n m hs.2 (by omega) (by omega) hcR h))
    · simp only [pd_ys, if_neg hv] at h
      refine br_f hv ?_
      by_cases b : x4 ≤ 0
      · have e0 : pd_sh x3 x4 (a_weights c) = 0 := by unfold pd_sh; rw [if_neg (Int32.not_lt.mpr b)]
        rw [e0, Int32.sub_zero] at h
        exact br_t b (nm_r (nI_1 _) (ih (i + 1) n m hs.2 (by omega) (by omega) hcR h))
      · have e0 : pd_sh x3 x4 (a_weights c) = x3 * a_weights c / x4 := by unfold pd_sh; rw [if_pos (Int32.not_le.mp b)]
        rw [e0] at h
        exact br_f b ⟨vi, vc, fun z => b (by rw [z]; exact Int32.le_refl _), nm_e (nm_r (nI_1 _) (ih (i + 1) n _ hs.2 (by omega) (by omega) hcR h))⟩
theorem py_arr36 {post : SY → Prop} {p a N : Nat} (hp : p < 12) (ha : a < 2) (hN : N ≤ 12) (hk : b_kidCount p = nI N) :
    ∀ (R : List Nat) (i n : Nat) (r s : Int32), pd_sg b_kids (12 * p + i) R → i + R.length = N → R.length < n → (∀ c, c ∈ R → c < 12) →
    (((pd_yr a_wishedSizes a_visible a (a_gaps p) R r) < 0 → wY_arranged_129 post (nI p) (nI (1 - a)) (pd_sw a_weights a_visible R s) g_many g_waiting f_noteCount f_over f_pressed f_focus g_acted a_there a_kinds (fun j => a_wishedPlaces (2 * j)) (fun j => a_wishedPlaces (2 * j + 1)) (fun j => a_wishedSizes (2 * j)) (fun j => a_wishedSizes (2 * j + 1)) a_colours a_layouts a_gaps a_weights (fun j => a_shifts (2 * j)) (fun j => a_shifts (2 * j + 1)) a_visible a_enabled a_on a_values a_parents a_effects a_targets b_kids b_kidCount b_left b_top b_width b_height b_order b_stack a_pixels b_events a_notes) ∧
     (¬ (pd_yr a_wishedSizes a_visible a (a_gaps p) R r) < 0 → (((pd_sw a_weights a_visible R s) = 0 → wY_arranged_129 post (nI p) (nI (1 - a)) (pd_sw a_weights a_visible R s) g_many g_waiting f_noteCount f_over f_pressed f_focus g_acted a_there a_kinds (fun j => a_wishedPlaces (2 * j)) (fun j => a_wishedPlaces (2 * j + 1)) (fun j => a_wishedSizes (2 * j)) (fun j => a_wishedSizes (2 * j + 1)) a_colours a_layouts a_gaps a_weights (fun j => a_shifts (2 * j)) (fun j => a_shifts (2 * j + 1)) a_visible a_enabled a_on a_values a_parents a_effects a_targets b_kids b_kidCount b_left b_top b_width b_height b_order b_stack a_pixels b_events a_notes) ∧
       (¬ (pd_sw a_weights a_visible R s) = 0 → ∀ x : Int32, x = 12 * nI p → ∃ n140 : Nat, wY_arranged_140 post (nI p) (nI (1 - a)) (pd_yr a_wishedSizes a_visible a (a_gaps p) R r) (pd_sw a_weights a_visible R s) g_many g_waiting f_noteCount f_over f_pressed f_focus g_acted a_there a_kinds (fun j => a_wishedPlaces (2 * j)) (fun j => a_wishedPlaces (2 * j + 1)) (fun j => a_wishedSizes (2 * j)) (fun j => a_wishedSizes (2 * j + 1)) a_colours a_layouts a_gaps a_weights (fun j => a_shifts (2 * j)) (fun j => a_shifts (2 * j + 1)) a_visible a_enabled a_on a_values a_parents a_effects a_targets b_kids b_kidCount b_left b_top b_width b_height b_order b_stack a_pixels b_events a_notes n140 (pd_yr a_wishedSizes a_visible a (a_gaps p) R r) x)))) →
    wY_arranged_36 post (nI p) (nI (1 - a)) g_many g_waiting f_noteCount f_over f_pressed f_focus g_acted a_there a_kinds (fun j => a_wishedPlaces (2 * j)) (fun j => a_wishedPlaces (2 * j + 1)) (fun j => a_wishedSizes (2 * j)) (fun j => a_wishedSizes (2 * j + 1)) a_colours a_layouts a_gaps a_weights (fun j => a_shifts (2 * j)) (fun j => a_shifts (2 * j + 1)) a_visible a_enabled a_on a_values a_parents a_effects a_targets b_kids b_kidCount b_left b_top b_width b_height b_order b_stack a_pixels b_events a_notes n r s (nI (12 * p + i)) := by
  have vp : vp_in (nI p) 12 := vp_in_nI hp (by omega)
  have cp : (nI p).toNatClampNeg = p := pd_cl (by omega)
  intro R
  induction R with
  | nil =>
    intro i n r s _ hi hn _ h
    obtain ⟨n, rfl⟩ : ∃ k, n = k + 1 := ⟨n - 1, by omega⟩
    have hi' : i = N := hi
    rw [wY_arranged_36]
    dsimp only
    rw [cp, hk, pd_12b]
    exact ⟨vp, br_t (by rw [hi']; exact Int32.le_refl _) h⟩
  | cons c R ih =>
    intro i n r s hs hi hn hc h
    obtain ⟨n, rfl⟩ : ∃ k, n = k + 1 := ⟨n - 1, by omega⟩
    rw [List.length_cons] at hi hn
    have hc12 : c < 12 := hc c (List.mem_cons_self ..)
    have vc : vp_in (nI c) 12 := vp_in_nI hc12 (by omega)
    have cc : (nI c).toNatClampNeg = c := pd_cl (by omega)
    have vi : vp_in (nI (12 * p + i)) 144 := vp_in_nI (by omega) (by omega)
    have hcR : ∀ d, d ∈ R → d < 12 := fun d hd => hc d (List.mem_cons_of_mem _ hd)
    rw [wY_arranged_36]
    dsimp only
    rw [cp, hk, pd_12b]
    refine ⟨vp, br_f (nI_ge (by omega) (by omega)) ⟨vi, nm_r (e' := nI c) (by rw [pd_cl (by omega)]; exact hs.1) ⟨vc, ?_⟩⟩⟩
    rw [cc]
    by_cases hv : a_visible c = 0
    · simp only [pd_yr, pd_sw, if_pos hv] at h
      exact br_t hv (nm_r (nI_1 _) (ih (i + 1) n r s hs.2 (by omega) (by omega) hcR h))
    · simp only [pd_yr, pd_sw, if_neg hv] at h
      refine br_f hv ⟨vp, ?_⟩
      have f99 : ∀ z, z = a_wishedSizes (2 * c + a) → wY_arranged_99 post (wY_arranged_36 post (nI p) (nI (1 - a)) g_many g_waiting f_noteCount f_over f_pressed f_focus g_acted a_there a_kinds (fun j => a_wishedPlaces (2 * j)) (fun j => a_wishedPlaces (2 * j + 1)) (fun j => a_wishedSizes (2 * j)) (fun j => a_wishedSizes (2 * j + 1)) a_colours a_layouts a_gaps a_weights (fun j => a_shifts (2 * j)) (fun j => a_shifts (2 * j + 1)) a_visible a_enabled a_on a_values a_parents a_effects a_targets b_kids b_kidCount b_left b_top b_width b_height b_order b_stack a_pixels b_events a_notes n) (nI p) (nI (1 - a)) s (nI (12 * p + i)) (nI c) z (a_gaps p) r g_many g_waiting f_noteCount f_over f_pressed f_focus g_acted a_there a_kinds (fun j => a_wishedPlaces (2 * j)) (fun j => a_wishedPlaces (2 * j + 1)) (fun j => a_wishedSizes (2 * j)) (fun j => a_wishedSizes (2 * j + 1)) a_colours a_layouts a_gaps a_weights (fun j => a_shifts (2 * j)) (fun j => a_shifts (2 * j + 1)) a_visible a_enabled a_on a_values a_parents a_effects a_targets b_kids b_kidCount b_left b_top b_width b_height b_order b_stack a_pixels b_events a_notes := by
        intro z ez
        subst ez
        exact nm_e ⟨vc, nm_r (e' := s + a_weights c) (by rw [cc]) (nm_r (nI_1 _) (ih (i + 1) n _ _ hs.2 (by omega) (by omega) hcR h))⟩
      have hz : a = 0 ∨ a = 1 := by omega
      rcases hz with rfl | rfl
      · exact br_f (by decide) ⟨vc, f99 _ rfl⟩
      · exact br_t (by decide) ⟨vc, f99 _ rfl⟩
theorem py_arr {post : SY → Prop} {p a : Nat} {L : List Nat} {rk : Nat → Nat} {G : Nat → pd_V} (H : pd_BI a_there a_parents L rk) (hK : pd_KD a_parents b_kidCount b_kids L) (hw : ∀ c, c < 12 → ∃ k, k ≤ 3 ∧ a_weights c = nI k)
    (hG : pd_LE a_parents a_wishedPlaces a_wishedSizes a_shifts a_visible a_enabled a_layouts a_gaps a_weights L G) (hp : p = 0 ∨ p ∈ L) (ha : a < 2) (hl : a_layouts p = nI (a + 1)) (hA : pd_YA G b_left b_top b_width b_height p)
    (h : ∀ lf tp wd hg, (∀ c, pd_YA G b_left b_top b_width b_height c → pd_YA G lf tp wd hg c) → (∀ c, c ∈ pd_kd a_parents L p → pd_YA G lf tp wd hg c) → post (g_many, g_waiting, f_noteCount, f_over, f_pressed, f_focus, g_acted, a_there, a_kinds, (fun j => a_wishedPlaces (2 * j)), (fun j => a_wishedPlaces (2 * j + 1)), (fun j => a_wishedSizes (2 * j)), (fun j => a_wishedSizes (2 * j + 1)), a_colours, a_layouts, a_gaps, a_weights, (fun j => a_shifts (2 * j)), (fun j => a_shifts (2 * j + 1)), a_visible, a_enabled, a_on, a_values, a_parents, a_effects, a_targets, b_kids, b_kidCount, lf, tp, wd, hg, b_order, b_stack, a_pixels, b_events, a_notes)) :
    wpY_arranged post (g_many, g_waiting, f_noteCount, f_over, f_pressed, f_focus, g_acted, a_there, a_kinds, (fun j => a_wishedPlaces (2 * j)), (fun j => a_wishedPlaces (2 * j + 1)), (fun j => a_wishedSizes (2 * j)), (fun j => a_wishedSizes (2 * j + 1)), a_colours, a_layouts, a_gaps, a_weights, (fun j => a_shifts (2 * j)), (fun j => a_shifts (2 * j + 1)), a_visible, a_enabled, a_on, a_values, a_parents, a_effects, a_targets, b_kids, b_kidCount, b_left, b_top, b_width, b_height, b_order, b_stack, a_pixels, b_events, a_notes) (nI p) (nI (1 - a)) := by
  have hp12 := pd_12lt H.2.1 hp
  have vp : vp_in (nI p) 12 := vp_in_nI hp12 (by omega)
  have cp : (nI p).toNatClampNeg = p := pd_cl (by omega)
  have hL := pd_len11 H.1 H.2.1
  have hKl : (pd_kd a_parents L p).length ≤ 11 := Nat.le_trans (List.length_filter_le _ _) hL
  obtain ⟨hk, hs⟩ := hK p hp
  have hc : ∀ c, c ∈ pd_kd a_parents L p → c < 12 := fun c hc => (H.2.1 c (pd_mkd.mp hc).1).2
  have hc' : ∀ c, c ∈ pd_kd a_parents L p → c < 12 ∧ p ≠ c := fun c hc1 => ⟨hc c hc1, fun e => by
    obtain ⟨hcL, hcp⟩ := pd_mkd.mp hc1
    obtain ⟨q, hq, eq, hr⟩ := H.2.2.2.2 c hcL
    have hq12 := pd_12lt H.2.1 hq
    have : q = p := pd_im (eq.symm.trans hcp) (by omega) (by omega)
    rw [this, e] at hr
    omega⟩
  have hl0 : ¬ a_layouts p = 0 := by rw [hl]; exact nI_ne0 (by omega) (by omega)
  have hla : ¬ a_layouts p = nI ((1 - a) + 1) := by rw [hl]; exact fun z => by have := pd_im z (by omega) (by omega); omega
  have PL := pd_LEp H hG hp hl0 hl
  obtain ⟨m, em, _, hm2, hm3⟩ := pd_swN (vi := a_visible) hw (pd_kd a_parents L p) 0 hc
  rw [nI_0] at em
  have m31 : m < 2 ^ 31 := by omega
  -- the last loop, for each x3 and start
  have last : ∀ x3 o, pd_PL a_wishedSizes a_weights a_visible a x3 (pd_sw a_weights a_visible (pd_kd a_parents L p) 0) (a_gaps p) (fun c => ((G c).1 a, (G c).2.1 a)) (pd_kd a_parents L p) o ((G p).1 a - a_shifts (2 * p + a)) →
      ∃ n245, wY_arranged_245 post (nI p) (nI (1 - a)) x3 (pd_sw a_weights a_visible (pd_kd a_parents L p) 0) g_many g_waiting f_noteCount f_over f_pressed f_focus g_acted n245 o ((G p).1 a - a_shifts (2 * p + a)) (nI (12 * p)) a_there a_kinds (fun j => a_wishedPlaces (2 * j)) (fun j => a_wishedPlaces (2 * j + 1)) (fun j => a_wishedSizes (2 * j)) (fun j => a_wishedSizes (2 * j + 1)) a_colours a_layouts a_gaps a_weights (fun j => a_shifts (2 * j)) (fun j => a_shifts (2 * j + 1)) a_visible a_enabled a_on a_values a_parents a_effects a_targets b_kids b_kidCount b_left b_top b_width b_height b_order b_stack a_pixels b_events a_notes := by
    intro x3 o hPL
    exact ⟨(pd_kd a_parents L p).length + 1, py_arr245 (G := G) hp12 ha (N := (pd_kd a_parents L p).length) (by omega) hk (pd_kd a_parents L p) 0 _ o _ b_left b_top b_width b_height hs (by omega) (by omega) hc' hA
      (fun c hc hv b => pd_Ghid hG hp hc hl0 hv b) (fun c hc hv => pd_Gacr hG hp hc hl0 hv hla) hPL h⟩
  have mid : ∀ x3 y, pd_PL a_wishedSizes a_weights a_visible a x3 (pd_sw a_weights a_visible (pd_kd a_parents L p) 0) (a_gaps p) (fun c => ((G c).1 a, (G c).2.1 a)) (pd_kd a_parents L p) (pd_ys a_weights a_visible x3 (pd_sw a_weights a_visible (pd_kd a_parents L p) 0) (pd_kd a_parents L p) y) ((G p).1 a - a_shifts (2 * p + a)) →
      ∃ n140, wY_arranged_140 post (nI p) (nI (1 - a)) x3 (pd_sw a_weights a_visible (pd_kd a_parents L p) 0) g_many g_waiting f_noteCount f_over f_pressed f_focus g_acted a_there a_kinds (fun j => a_wishedPlaces (2 * j)) (fun j => a_wishedPlaces (2 * j + 1)) (fun j => a_wishedSizes (2 * j)) (fun j => a_wishedSizes (2 * j + 1)) a_colours a_layouts a_gaps a_weights (fun j => a_shifts (2 * j)) (fun j => a_shifts (2 * j + 1)) a_visible a_enabled a_on a_values a_parents a_effects a_targets b_kids b_kidCount b_left b_top b_width b_height b_order b_stack a_pixels b_events a_notes n140 y (nI (12 * p)) := by
    intro x3 y hPL
    exact ⟨(pd_kd a_parents L p).length + 1, py_arr140 (G := G) hp12 ha (N := (pd_kd a_parents L p).length) (by omega) hk hA (pd_kd a_parents L p) 0 _ y hs (by omega) (by omega) hc (last x3 _ hPL)⟩
  have f19 : ∀ z, z = (G p).2.1 a → wY_arranged_19 post (nI p) (nI (1 - a)) z g_many g_waiting f_noteCount f_over f_pressed f_focus g_acted a_there a_kinds (fun j => a_wishedPlaces (2 * j)) (fun j => a_wishedPlaces (2 * j + 1)) (fun j => a_wishedSizes (2 * j)) (fun j => a_wishedSizes (2 * j + 1)) a_colours a_layouts a_gaps a_weights (fun j => a_shifts (2 * j)) (fun j => a_shifts (2 * j + 1)) a_visible a_enabled a_on a_values a_parents a_effects a_targets b_kids b_kidCount b_left b_top b_width b_height b_order b_stack a_pixels b_events a_notes := by
    intro z ez
    subst ez
    refine ⟨vp, nm_r (e' := (G p).2.1 a + a_gaps p) (by rw [cp]) (nm_r (pd_12 p) ⟨(pd_kd a_parents L p).length + 1, ?_⟩)⟩
    refine py_arr36 hp12 ha (N := (pd_kd a_parents L p).length) (by omega) hk (pd_kd a_parents L p) 0 _ _ 0 hs (by omega) (by omega) hc ?_
    by_cases hm0 : m = 0
    · have es : pd_sw a_weights a_visible (pd_kd a_parents L p) 0 = 0 := by rw [em, hm0]; exact nI_0
      have f129 : wY_arranged_129 post (nI p) (nI (1 - a)) (pd_sw a_weights a_visible (pd_kd a_parents L p) 0) g_many g_waiting f_noteCount f_over f_pressed f_focus g_acted a_there a_kinds (fun j => a_wishedPlaces (2 * j)) (fun j => a_wishedPlaces (2 * j + 1)) (fun j => a_wishedSizes (2 * j)) (fun j => a_wishedSizes (2 * j + 1)) a_colours a_layouts a_gaps a_weights (fun j => a_shifts (2 * j)) (fun j => a_shifts (2 * j + 1)) a_visible a_enabled a_on a_values a_parents a_effects a_targets b_kids b_kidCount b_left b_top b_width b_height b_order b_stack a_pixels b_events a_notes :=
        nm_r (pd_12 p) (mid 0 0 (pd_PLi es _ _ _ _ (hm3 hm0) PL))
      exact br_c (fun _ => f129) (fun _ => br_t es f129)
    · have es : ¬ pd_sw a_weights a_visible (pd_kd a_parents L p) 0 = 0 := by rw [em]; exact nI_ne0 (by omega) m31
      have hn : 0 < pd_sn a_visible (pd_kd a_parents L p) 0 := by
        refine Nat.pos_of_ne_zero fun e => es ?_
        exact pd_sn0 _ 0 0 e
      have ey := pd_yr_l (ws := a_wishedSizes) (a := a) (gp := a_gaps p) (sz := (G p).2.1 a) hn
      rw [ey]
      have step : ∀ x3, x3 = pd_lo a_wishedSizes a_visible (a_gaps p) a (pd_kd a_parents L p) ((G p).2.1 a) → ∃ n140, wY_arranged_140 post (nI p) (nI (1 - a)) x3 (pd_sw a_weights a_visible (pd_kd a_parents L p) 0) g_many g_waiting f_noteCount f_over f_pressed f_focus g_acted a_there a_kinds (fun j => a_wishedPlaces (2 * j)) (fun j => a_wishedPlaces (2 * j + 1)) (fun j => a_wishedSizes (2 * j)) (fun j => a_wishedSizes (2 * j + 1)) a_colours a_layouts a_gaps a_weights (fun j => a_shifts (2 * j)) (fun j => a_shifts (2 * j + 1)) a_visible a_enabled a_on a_values a_parents a_effects a_targets b_kids b_kidCount b_left b_top b_width b_height b_order b_stack a_pixels b_events a_notes n140 x3 (nI (12 * p)) := by
        intro x3 e3
        refine mid x3 x3 ?_
        rw [pd_ys_x (l := x3) (pd_kd a_parents L p) x3 0 (by rw [Int32.sub_zero]), e3]
        exact PL
      by_cases hr : pd_l1 (a_gaps p) (pd_sn a_visible (pd_kd a_parents L p) 0) (pd_sr a_wishedSizes a_visible a (pd_kd a_parents L p) ((G p).2.1 a)) < 0
      · refine br_t hr (nm_r (pd_12 p) (step 0 ?_))
        unfold pd_lo pd_po
        rw [if_neg (fun z => Int32.lt_irrefl (Int32.lt_of_lt_of_le z (Int32.le_of_lt hr)))]
      · refine br_f hr (br_f es (nm_r (pd_12 p) (step _ ?_)))
        unfold pd_lo pd_po
        by_cases h0 : 0 < pd_l1 (a_gaps p) (pd_sn a_visible (pd_kd a_parents L p) 0) (pd_sr a_wishedSizes a_visible a (pd_kd a_parents L p) ((G p).2.1 a))
        · rw [if_pos h0]
        · rw [if_neg h0]
          exact Int32.le_antisymm (Int32.not_lt.mp h0) (Int32.not_lt.mp hr)
  have hz : a = 0 ∨ a = 1 := by omega
  rcases hz with rfl | rfl
  · exact br_f (by decide) ⟨vp, f19 _ (by rw [cp]; exact hA.2.2.1)⟩
  · exact br_t (by decide) ⟨vp, f19 _ (by rw [cp]; exact hA.2.2.2)⟩
theorem py_rect84 {post : SY → Prop} {J : _} {w : Nat} {L T : List Nat} {rk : Nat → Nat} {G : Nat → pd_V} (H : pd_BI a_there a_parents L rk) (hK : pd_KD a_parents b_kidCount b_kids L) (hV : pd_VA a_wishedPlaces a_wishedSizes a_weights a_layouts a_targets a_shifts)
    (hG : pd_LE a_parents a_wishedPlaces a_wishedSizes a_shifts a_visible a_enabled a_layouts a_gaps a_weights L G) (hp : w = 0 ∨ w ∈ L) (hA : pd_YA G b_left b_top b_width b_height w) (hT : T.length ≤ 12)
    (h : ∀ st lf tp wd hg, pd_rs st (pd_kd a_parents L w ++ T) → (∀ c, pd_YA G b_left b_top b_width b_height c → pd_YA G lf tp wd hg c) → (∀ c, c ∈ pd_kd a_parents L w → pd_YA G lf tp wd hg c) →
      J (nI (pd_kd a_parents L w ++ T).length) g_many g_waiting f_noteCount f_over f_pressed f_focus g_acted a_there a_kinds (fun j => a_wishedPlaces (2 * j)) (fun j => a_wishedPlaces (2 * j + 1)) (fun j => a_wishedSizes (2 * j)) (fun j => a_wishedSizes (2 * j + 1)) a_colours a_layouts a_gaps a_weights (fun j => a_shifts (2 * j)) (fun j => a_shifts (2 * j + 1)) a_visible a_enabled a_on a_values a_parents a_effects a_targets b_kids b_kidCount lf tp wd hg b_order st a_pixels b_events a_notes) :
    ∀ (k n q : Nat) (x3 : Int32) (st : Nat → Int32), k ≤ (pd_kd a_parents L w).length → k < n → x3 = nI k + (-1) → q = ((pd_kd a_parents L w).drop k ++ T).length → pd_rs st ((pd_kd a_parents L w).drop k ++ T) →
      wY_rectangles_84 post J (nI w) g_many g_waiting f_noteCount f_over f_pressed f_focus g_acted n (nI q) x3 a_there a_kinds (fun j => a_wishedPlaces (2 * j)) (fun j => a_wishedPlaces (2 * j + 1)) (fun j => a_wishedSizes (2 * j)) (fun j => a_wishedSizes (2 * j + 1)) a_colours a_layouts a_gaps a_weights (fun j => a_shifts (2 * j)) (fun j => a_shifts (2 * j + 1)) a_visible a_enabled a_on a_values a_parents a_effects a_targets b_kids b_kidCount b_left b_top b_width b_height b_order st a_pixels b_events a_notes := by
  have hw12 := pd_12lt H.2.1 hp
  have vw : vp_in (nI w) 12 := vp_in_nI hw12 (by omega)
  have cw : (nI w).toNatClampNeg = w := pd_cl (by omega)
  have hL := pd_len11 H.1 H.2.1
  have hKl : (pd_kd a_parents L w).length ≤ 11 := Nat.le_trans (List.length_filter_le _ _) hL
  have hc : ∀ c, c ∈ pd_kd a_parents L w → c < 12 := fun c hc => (H.2.1 c (pd_mkd.mp hc).1).2
  obtain ⟨hk, hs⟩ := hK w hp
  intro k
  induction k with
  | zero =>
    intro n q x3 st _ hn ex eq hr
    obtain ⟨n, rfl⟩ : ∃ m, n = m + 1 := ⟨n - 1, by omega⟩
    subst ex eq
    rw [List.drop_zero] at hr ⊢
    rw [wY_rectangles_84]
    refine br_t (by decide) ⟨vw, ?_⟩
    rw [cw]
    obtain ⟨y, hy, ey⟩ := hV.2.2.1 w hw12
    by_cases e0 : y = 0
    · subst e0
      have el : a_layouts w = 0 := ey
      refine br_t el (nm_r (pd_12 w) ⟨(pd_kd a_parents L w).length + 1, ?_⟩)
      exact py_free5 (G := G) hw12 (N := (pd_kd a_parents L w).length) (by omega) hk (pd_kd a_parents L w) 0 _ b_left b_top b_width b_height hs (by omega) (by omega) hc hA (fun c hc a => pd_Gfree hG hp hc el a) (fun lf tp wd hg m1 m2 => h st lf tp wd hg hr m1 m2)
    · have el : ¬ a_layouts w = 0 := by rw [ey]; exact nI_ne0 (by omega) (by omega)
      refine br_f el ⟨vw, ?_⟩
      by_cases e1 : y = 1
      · subst e1
        exact br_t ey (py_arr (G := G) (a := 0) H hK hV.2.1 hG hp (by omega) ey hA (fun lf tp wd hg m1 m2 => h st lf tp wd hg hr m1 m2))
      · have e2 : y = 2 := by omega
        subst e2
        exact br_f (by rw [ey]; decide) (py_arr (G := G) (a := 1) H hK hV.2.1 hG hp (by omega) ey hA (fun lf tp wd hg m1 m2 => h st lf tp wd hg hr m1 m2))
  | succ k ih =>
    intro n q x3 st hk' hn ex eq hr
    obtain ⟨n, rfl⟩ : ∃ m, n = m + 1 := ⟨n - 1, by omega⟩
    rw [pd_m1] at ex
    subst ex
    have hlen : q = (pd_kd a_parents L w).length - (k + 1) + T.length := by rw [eq, List.length_append, List.length_drop]
    rw [wY_rectangles_84]
    dsimp only
    rw [pd_12b]
    have e1 : b_kids (nI (12 * w + k)).toNatClampNeg = nI (pd_kd a_parents L w)[k] := by
      rw [pd_cl (by omega)]
      exact pd_sg_g _ _ k (by omega) hs
    rw [e1, pd_cl (n := q) (by omega)]
    refine br_f (nI_pos (by omega)) (nm_r (nI_1 q) ⟨vp_in_nI (by omega) (by omega), vp_in_nI (by omega) (by omega), nm_e (nm_e ?_)⟩)
    have ed : (pd_kd a_parents L w).drop k = (pd_kd a_parents L w)[k] :: (pd_kd a_parents L w).drop (k + 1) := List.drop_eq_getElem_cons (by omega)
    refine ih n (q + 1) _ _ (by omega) (by omega) rfl ?_ ?_
    · rw [ed, List.cons_append, List.length_cons, ← eq]
    · rw [ed, List.cons_append, eq]
      exact pd_rs_u hr
end PDL
