section PDM
variable {f_stacked f_treeSize f_over f_pressed f_focus f_waiting f_noteCount : Int32} {a_there a_parents a_kinds a_colours a_weights a_gaps a_layouts a_values a_effects a_targets a_visible a_enabled a_on a_wishedPlaces a_wishedSizes a_shifts a_stack a_tree a_seen a_able a_places a_sizes a_clipStarts a_clipEnds a_eventKinds a_eventXs a_eventYs a_notes a_pixels : Nat → Int32}
variable {g_many g_waiting g_acted : Int32} {b_kids b_kidCount b_left b_top b_width b_height b_order b_stack b_events : Nat → Int32}
/-! T: Y: rectangles(), the outer loop -/
theorem py_rect44 {post : SY → Prop} {L : List Nat} {rk : Nat → Nat} {G : Nat → pd_V} (H : pd_BI a_there a_parents L rk) (hK : pd_KD a_parents b_kidCount b_kids L) (hV : pd_VA a_wishedPlaces a_wishedSizes a_weights a_layouts a_targets a_shifts)
    (hG : pd_LE a_parents a_wishedPlaces a_wishedSizes a_shifts a_visible a_enabled a_layouts a_gaps a_weights L G) :
    ∀ (m : Nat) (D T : List Nat) (n q d : Nat) (od st lf tp wd hg : Nat → Int32), m + D.length = 12 → pd_WL a_parents L D T → m < n → q = T.length → d = D.length → pd_sg od 0 D → pd_rs st T → (∀ w, w ∈ D ++ T → pd_YA G lf tp wd hg w) →
    (∀ od' st' lf' tp' wd' hg', pd_sg od' 0 (pd_run a_parents L m D T) → (∀ w, w ∈ pd_run a_parents L m D T → pd_YA G lf' tp' wd' hg' w) →
      post (nI (pd_run a_parents L m D T).length, g_waiting, f_noteCount, f_over, f_pressed, f_focus, g_acted, a_there, a_kinds, (fun j => a_wishedPlaces (2 * j)), (fun j => a_wishedPlaces (2 * j + 1)), (fun j => a_wishedSizes (2 * j)), (fun j => a_wishedSizes (2 * j + 1)), a_colours, a_layouts, a_gaps, a_weights, (fun j => a_shifts (2 * j)), (fun j => a_shifts (2 * j + 1)), a_visible, a_enabled, a_on, a_values, a_parents, a_effects, a_targets, b_kids, b_kidCount, lf', tp', wd', hg', od', st', a_pixels, b_events, a_notes)) →
    wY_rectangles_44 post n (nI q) (nI d) g_waiting f_noteCount f_over f_pressed f_focus g_acted a_there a_kinds (fun j => a_wishedPlaces (2 * j)) (fun j => a_wishedPlaces (2 * j + 1)) (fun j => a_wishedSizes (2 * j)) (fun j => a_wishedSizes (2 * j + 1)) a_colours a_layouts a_gaps a_weights (fun j => a_shifts (2 * j)) (fun j => a_shifts (2 * j + 1)) a_visible a_enabled a_on a_values a_parents a_effects a_targets b_kids b_kidCount lf tp wd hg od st a_pixels b_events a_notes := by
  have hL := pd_len11 H.1 H.2.1
  intro m
  induction m with
  | zero =>
    intro D T n q d od st lf tp wd hg hm hW hn hq hd ho hs hA h
    obtain ⟨n, rfl⟩ : ∃ k, n = k + 1 := ⟨n - 1, by omega⟩
    have hl := pd_WLlen H hW
    have e : T = [] := List.length_eq_zero_iff.mp (by omega)
    subst e hd hq
    rw [wY_rectangles_44]
    refine br_t (Int32.le_refl _) ?_
    exact h od st lf tp wd hg ho (fun w hw => hA w (by rw [List.append_nil]; exact hw))
  | succ m ih =>
    intro D T n q d od st lf tp wd hg hm hW hn hq hd ho hs hA h
    obtain ⟨n, rfl⟩ : ∃ k, n = k + 1 := ⟨n - 1, by omega⟩
    rw [wY_rectangles_44]
    cases T with
    | nil =>
      subst hd hq
      refine br_t (Int32.le_refl _) ?_
      exact h od st lf tp wd hg ho (fun w hw => hA w (by rw [List.append_nil]; exact hw))
    | cons w R =>
      rw [List.length_cons] at hq
      have hW' := pd_WLs H hW
      have hl := pd_WLlen H hW'
      rw [List.length_append, List.length_append, List.length_singleton] at hl
      have hw : w = 0 ∨ w ∈ L := hW.2.1 w (by simp)
      have hw12 := pd_12lt H.2.1 hw
      have hkw := (hK w hw).1
      subst hq hd
      refine br_f (nI_nle (by omega) (by omega)) (nm_r (pd_m1 _) ⟨vp_in_nI (by omega) (by omega), nm_r (e' := nI w) (by rw [pd_cl (by omega)]; exact hs.1) (nm_r (nI_1 _) ⟨vp_in_nI (by omega) (by omega), nm_r (e' := upd od D.length (nI w)) (by rw [pd_cl (by omega)]) ⟨vp_in_nI hw12 (by omega), nm_r (e' := nI (pd_kd a_parents L w).length + (-1)) (by rw [pd_cl (by omega), hkw, Int32.sub_eq_add_neg]) ⟨(pd_kd a_parents L w).length + 1, ?_⟩⟩⟩)⟩)
      refine py_rect84 (G := G) (T := R) H hK hV hG hw (hA w (by simp)) (by omega) (fun st1 lf1 tp1 wd1 hg1 h1 h2 h3 => ?_) (pd_kd a_parents L w).length _ R.length _ st (Nat.le_refl _) (by omega) rfl (by simp) (by rw [List.drop_length]; exact hs.2)
      refine ih (D ++ [w]) (pd_kd a_parents L w ++ R) n _ _ _ st1 lf1 tp1 wd1 hg1 (by rw [List.length_append, List.length_singleton]; omega) hW' (by omega) rfl (by rw [List.length_append, List.length_singleton]) (pd_sg_e ho) h1 (fun v hv => ?_) (fun od2 st2 lf2 tp2 wd2 hg2 k1 k2 => h od2 st2 lf2 tp2 wd2 hg2 k1 k2)
      simp only [List.mem_append, List.mem_cons, List.not_mem_nil, or_false] at hv
      rcases hv with (hv | hv) | (hv | hv)
      · exact h2 v (hA v (by simp [hv]))
      · exact h2 v (hA v (by simp [hv]))
      · exact h3 v hv
      · exact h2 v (hA v (by simp [hv]))
/-- after rectangles(): the order and the rectangles -/
def pd_YO (G : Nat → pd_V) (pa : Nat → Int32) (L : List Nat) (mn : Int32) (od lf tp wd hg : Nat → Int32) : Prop :=
  mn = nI (pd_ord pa L).length ∧ pd_sg od 0 (pd_ord pa L) ∧ ∀ w, (w = 0 ∨ w ∈ L) → pd_YA G lf tp wd hg w
theorem py_rect {post : SY → Prop} {L : List Nat} {rk : Nat → Nat} {G : Nat → pd_V} (H : pd_BI a_there a_parents L rk) (hK : pd_KD a_parents b_kidCount b_kids L) (hV : pd_VA a_wishedPlaces a_wishedSizes a_weights a_layouts a_targets a_shifts)
    (hG : pd_LE a_parents a_wishedPlaces a_wishedSizes a_shifts a_visible a_enabled a_layouts a_gaps a_weights L G)
    (h : ∀ mn od st lf tp wd hg, pd_YO G a_parents L mn od lf tp wd hg → post (mn, g_waiting, f_noteCount, f_over, f_pressed, f_focus, g_acted, a_there, a_kinds, (fun j => a_wishedPlaces (2 * j)), (fun j => a_wishedPlaces (2 * j + 1)), (fun j => a_wishedSizes (2 * j)), (fun j => a_wishedSizes (2 * j + 1)), a_colours, a_layouts, a_gaps, a_weights, (fun j => a_shifts (2 * j)), (fun j => a_shifts (2 * j + 1)), a_visible, a_enabled, a_on, a_values, a_parents, a_effects, a_targets, b_kids, b_kidCount, lf, tp, wd, hg, od, st, a_pixels, b_events, a_notes)) : wpY_rectangles post (g_many, g_waiting, f_noteCount, f_over, f_pressed, f_focus, g_acted, a_there, a_kinds, (fun j => a_wishedPlaces (2 * j)), (fun j => a_wishedPlaces (2 * j + 1)), (fun j => a_wishedSizes (2 * j)), (fun j => a_wishedSizes (2 * j + 1)), a_colours, a_layouts, a_gaps, a_weights, (fun j => a_shifts (2 * j)), (fun j => a_shifts (2 * j + 1)), a_visible, a_enabled, a_on, a_values, a_parents, a_effects, a_targets, b_kids, b_kidCount, b_left, b_top, b_width, b_height, b_order, b_stack, a_pixels, b_events, a_notes) := by
  have hV0 := hV
  obtain ⟨⟨v0, v1, v2, v3⟩, _⟩ := hV0
  refine nm_e (nm_e (nm_e (nm_e (nm_e ⟨13, ?_⟩))))
  refine py_rect44 (G := G) H hK hV hG 12 [] [0] 13 1 0 b_order _ _ _ _ _ rfl (pd_WL0 _ _) (by omega) rfl rfl trivial ⟨pd_us, trivial⟩ (fun w hw => ?_) (fun od st lf tp wd hg k1 k2 => h _ od st lf tp wd hg ⟨rfl, k1, fun w hw => k2 w ((pd_ordM H w).mpr hw)⟩)
  have : w = 0 := by simpa using hw
  subst this
  unfold pd_YA
  rw [hG.1, pd_us, pd_us, pd_us, pd_us]
  exact ⟨v0.symm, v1.symm, v2.symm, v3.symm⟩
/-! U: Y: what looks upwards -/
theorem py_seen {L : List Nat} {rk : Nat → Nat} {G : Nat → pd_V} (H : pd_BI a_there a_parents L rk) (hG : pd_LE a_parents a_wishedPlaces a_wishedSizes a_shifts a_visible a_enabled a_layouts a_gaps a_weights L G) {post : Int32 → Prop} :
    ∀ w, (w = 0 ∨ w ∈ L) → (¬ (G w).2.2.1 = 0 → post 1) → ((G w).2.2.1 = 0 → post 0) → wpY_isSeen post (g_many, g_waiting, f_noteCount, f_over, f_pressed, f_focus, g_acted, a_there, a_kinds, (fun j => a_wishedPlaces (2 * j)), (fun j => a_wishedPlaces (2 * j + 1)), (fun j => a_wishedSizes (2 * j)), (fun j => a_wishedSizes (2 * j + 1)), a_colours, a_layouts, a_gaps, a_weights, (fun j => a_shifts (2 * j)), (fun j => a_shifts (2 * j + 1)), a_visible, a_enabled, a_on, a_values, a_parents, a_effects, a_targets, b_kids, b_kidCount, b_left, b_top, b_width, b_height, b_order, b_stack, a_pixels, b_events, a_notes) (nI w) := by
  refine pd_ind H _ ?_ ?_
  · intro h1 h0
    have e : (G 0).2.2.1 = if ¬ a_visible 0 = 0 then 1 else 0 := by rw [hG.1]; rfl
    refine ⟨2, ?_⟩
    rw [wY_isSeen_2]
    refine br_f (by decide) ⟨vp_in_nI (n := 0) (by omega) (by omega), ?_⟩
    rw [pd_cl (n := 0) (by omega)]
    by_cases c : a_visible 0 = 0
    · exact br_t c (h0 (by rw [e, if_neg (fun z => z c)]))
    · refine br_f c ⟨vp_in_nI (n := 0) (by omega) (by omega), nm_r (e' := -1) H.2.2.2.1 ?_⟩
      rw [wY_isSeen_2]
      exact br_t (by decide) (h1 (by rw [e, if_pos c]; decide))
  · intro c p hc hp ep ih h1 h0
    have hc12 := (H.2.1 c hc).2
    have e := pd_see hG hc hp ep
    have cc : (nI c).toNatClampNeg = c := pd_cl (by omega)
    by_cases v : a_visible c = 0
    · refine ⟨1, ?_⟩
      rw [wY_isSeen_2]
      refine br_f (nI_pos (by omega)) ⟨vp_in_nI hc12 (by omega), ?_⟩
      rw [cc]
      exact br_t v (h0 (by rw [e, if_neg (fun z => z.1 v)]))
    · obtain ⟨n, hn⟩ := ih (fun z => h1 (by rw [e, if_pos ⟨v, z⟩]; decide)) (fun z => h0 (by rw [e, if_neg (fun y => y.2 z)]))
      refine ⟨n + 1, ?_⟩
      rw [wY_isSeen_2]
      refine br_f (nI_pos (by omega)) ⟨vp_in_nI hc12 (by omega), ?_⟩
      rw [cc]
      exact br_f v ⟨vp_in_nI hc12 (by omega), nm_r ep hn⟩
theorem py_able {L : List Nat} {rk : Nat → Nat} {G : Nat → pd_V} (H : pd_BI a_there a_parents L rk) (hG : pd_LE a_parents a_wishedPlaces a_wishedSizes a_shifts a_visible a_enabled a_layouts a_gaps a_weights L G) {post : Int32 → Prop} :
    ∀ w, (w = 0 ∨ w ∈ L) → (¬ (G w).2.2.2.1 = 0 → post 1) → ((G w).2.2.2.1 = 0 → post 0) → wpY_isAble post (g_many, g_waiting, f_noteCount, f_over, f_pressed, f_focus, g_acted, a_there, a_kinds, (fun j => a_wishedPlaces (2 * j)), (fun j => a_wishedPlaces (2 * j + 1)), (fun j => a_wishedSizes (2 * j)), (fun j => a_wishedSizes (2 * j + 1)), a_colours, a_layouts, a_gaps, a_weights, (fun j => a_shifts (2 * j)), (fun j => a_shifts (2 * j + 1)), a_visible, a_enabled, a_on, a_values, a_parents, a_effects, a_targets, b_kids, b_kidCount, b_left, b_top, b_width, b_height, b_order, b_stack, a_pixels, b_events, a_notes) (nI w) := by
  refine pd_ind H _ ?_ ?_
  · intro h1 h0
    have e : (G 0).2.2.2.1 = if ¬ a_enabled 0 = 0 then 1 else 0 := by rw [hG.1]; rfl
    refine ⟨2, ?_⟩
    rw [wY_isAble_2]
    refine br_f (by decide) ⟨vp_in_nI (n := 0) (by omega) (by omega), ?_⟩
    rw [pd_cl (n := 0) (by omega)]
    by_cases c : a_enabled 0 = 0
    · exact br_t c (h0 (by rw [e, if_neg (fun z => z c)]))
    · refine br_f c ⟨vp_in_nI (n := 0) (by omega) (by omega), nm_r (e' := -1) H.2.2.2.1 ?_⟩
      rw [wY_isAble_2]
      exact br_t (by decide) (h1 (by rw [e, if_pos c]; decide))
  · intro c p hc hp ep ih h1 h0
    have hc12 := (H.2.1 c hc).2
    have e := pd_abl hG hc hp ep
    have cc : (nI c).toNatClampNeg = c := pd_cl (by omega)
    by_cases v : a_enabled c = 0
    · refine ⟨1, ?_⟩
      rw [wY_isAble_2]
      refine br_f (nI_pos (by omega)) ⟨vp_in_nI hc12 (by omega), ?_⟩
      rw [cc]
      exact br_t v (h0 (by rw [e, if_neg (fun z => z.1 v)]))
    · obtain ⟨n, hn⟩ := ih (fun z => h1 (by rw [e, if_pos ⟨v, z⟩]; decide)) (fun z => h0 (by rw [e, if_neg (fun y => y.2 z)]))
      refine ⟨n + 1, ?_⟩
      rw [wY_isAble_2]
      refine br_f (nI_pos (by omega)) ⟨vp_in_nI hc12 (by omega), ?_⟩
      rw [cc]
      exact br_f v ⟨vp_in_nI hc12 (by omega), nm_r ep hn⟩
theorem py_cov {post : Int32 → Prop} {w : Nat} {x y : Int32} {G : Nat → pd_V} (hw : w < 12) (hA : pd_YA G b_left b_top b_width b_height w) (h1 : pd_cov (G w) x y → post 1) (h0 : ¬ pd_cov (G w) x y → post 0) : wpY_covers post (g_many, g_waiting, f_noteCount, f_over, f_pressed, f_focus, g_acted, a_there, a_kinds, (fun j => a_wishedPlaces (2 * j)), (fun j => a_wishedPlaces (2 * j + 1)), (fun j => a_wishedSizes (2 * j)), (fun j => a_wishedSizes (2 * j + 1)), a_colours, a_layouts, a_gaps, a_weights, (fun j => a_shifts (2 * j)), (fun j => a_shifts (2 * j + 1)), a_visible, a_enabled, a_on, a_values, a_parents, a_effects, a_targets, b_kids, b_kidCount, b_left, b_top, b_width, b_height, b_order, b_stack, a_pixels, b_events, a_notes) (nI w) x y := by
  have vw : vp_in (nI w) 12 := vp_in_nI hw (by omega)
  have cw : (nI w).toNatClampNeg = w := pd_cl (by omega)
  obtain ⟨a1, a2, a3, a4⟩ := hA
  refine ⟨vw, ?_⟩
  rw [cw, a1, a2, a3, a4]
  by_cases c1 : x < (G w).1 0
  · exact br_t c1 (h0 (fun z => absurd c1 (Int32.not_lt.mpr z.1)))
  · by_cases c2 : (G w).1 0 + (G w).2.1 0 ≤ x
    · exact br_f c1 ⟨vw, vw, br_t c2 (h0 (fun z => absurd c2 (Int32.not_le.mpr z.2.1)))⟩
    · by_cases c3 : y < (G w).1 1
      · exact br_f c1 ⟨vw, vw, br_f c2 ⟨vw, br_t c3 (h0 (fun z => absurd c3 (Int32.not_lt.mpr z.2.2.1)))⟩⟩
      · by_cases c4 : (G w).1 1 + (G w).2.1 1 ≤ y
        · exact br_f c1 ⟨vw, vw, br_f c2 ⟨vw, br_f c3 ⟨vw, vw, br_t c4 (h0 (fun z => absurd c4 (Int32.not_le.mpr z.2.2.2)))⟩⟩⟩
        · exact br_f c1 ⟨vw, vw, br_f c2 ⟨vw, br_f c3 ⟨vw, vw, br_f c4 (h1 ⟨Int32.not_lt.mp c1, Int32.not_le.mp c2, Int32.not_lt.mp c3, Int32.not_le.mp c4⟩)⟩⟩⟩
theorem py_shows {L : List Nat} {rk : Nat → Nat} {G : Nat → pd_V} (H : pd_BI a_there a_parents L rk) (hG : pd_LE a_parents a_wishedPlaces a_wishedSizes a_shifts a_visible a_enabled a_layouts a_gaps a_weights L G) (hA : ∀ w, (w = 0 ∨ w ∈ L) → pd_YA G b_left b_top b_width b_height w) {post : Int32 → Prop} {x y : Int32} :
    ∀ w, (w = 0 ∨ w ∈ L) → (pd_sho (G w) x y → post 1) → (¬ pd_sho (G w) x y → post 0) → wpY_shows post (g_many, g_waiting, f_noteCount, f_over, f_pressed, f_focus, g_acted, a_there, a_kinds, (fun j => a_wishedPlaces (2 * j)), (fun j => a_wishedPlaces (2 * j + 1)), (fun j => a_wishedSizes (2 * j)), (fun j => a_wishedSizes (2 * j + 1)), a_colours, a_layouts, a_gaps, a_weights, (fun j => a_shifts (2 * j)), (fun j => a_shifts (2 * j + 1)), a_visible, a_enabled, a_on, a_values, a_parents, a_effects, a_targets, b_kids, b_kidCount, b_left, b_top, b_width, b_height, b_order, b_stack, a_pixels, b_events, a_notes) (nI w) x y := by
  refine pd_ind H _ ?_ ?_
  · intro h1 h0
    have e := pd_sho0 hG x y
    refine ⟨2, ?_⟩
    rw [wY_shows_3]
    refine br_f (by decide) ⟨vp_in_nI (n := 0) (by omega) (by omega), ?_⟩
    rw [pd_cl (n := 0) (by omega)]
    by_cases c : a_visible 0 = 0
    · exact br_t c (h0 (fun z => (e.mp z).1 c))
    · refine br_f c (py_cov (G := G) (w := 0) (by omega) (hA 0 (Or.inl rfl)) (fun z => br_f (by decide) ⟨vp_in_nI (n := 0) (by omega) (by omega), nm_r (e' := -1) H.2.2.2.1 ?_⟩) (fun z => br_t rfl (h0 (fun y => z (e.mp y).2))))
      rw [wY_shows_3]
      exact br_t (by decide) (h1 (e.mpr ⟨c, z⟩))
  · intro c p hc hp ep ih h1 h0
    have hc12 := (H.2.1 c hc).2
    have e := pd_shos hG hc hp ep x y
    have cc : (nI c).toNatClampNeg = c := pd_cl (by omega)
    by_cases v : a_visible c = 0
    · refine ⟨1, ?_⟩
      rw [wY_shows_3]
      refine br_f (nI_pos (by omega)) ⟨vp_in_nI hc12 (by omega), ?_⟩
      rw [cc]
      exact br_t v (h0 (fun z => (e.mp z).1.1 v))
    · by_cases g : pd_cov (G c) x y
      · obtain ⟨n, hn⟩ := ih (fun z => h1 (e.mpr ⟨⟨v, g⟩, z⟩)) (fun z => h0 (fun y => z (e.mp y).2))
        refine ⟨n + 1, ?_⟩
        rw [wY_shows_3]
        refine br_f (nI_pos (by omega)) ⟨vp_in_nI hc12 (by omega), ?_⟩
        rw [cc]
        exact br_f v (py_cov (G := G) hc12 (hA c (Or.inr hc)) (fun _ => br_f (by decide) ⟨vp_in_nI hc12 (by omega), nm_r (e' := nI p) ep hn⟩) (fun z => absurd g z))
      · refine ⟨1, ?_⟩
        rw [wY_shows_3]
        refine br_f (nI_pos (by omega)) ⟨vp_in_nI hc12 (by omega), ?_⟩
        rw [cc]
        exact br_f v (py_cov (G := G) hc12 (hA c (Or.inr hc)) (fun z => absurd z g) (fun _ => br_t rfl (h0 (fun z => g (e.mp z).1.2))))
end PDM
