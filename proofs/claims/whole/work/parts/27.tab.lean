section PDZ
variable {f_stacked f_treeSize f_over f_pressed f_focus f_waiting f_noteCount : Int32} {a_there a_parents a_kinds a_colours a_weights a_gaps a_layouts a_values a_effects a_targets a_visible a_enabled a_on a_wishedPlaces a_wishedSizes a_shifts a_stack a_tree a_seen a_able a_places a_sizes a_clipStarts a_clipEnds a_eventKinds a_eventXs a_eventYs a_notes a_pixels : Nat → Int32}
variable {g_many g_waiting g_acted : Int32} {b_kids b_kidCount b_left b_top b_width b_height b_order b_stack b_events : Nat → Int32}
theorem pd_SPneg {L : List Nat} (hL : ∀ w, w ∈ L → 0 < w ∧ w < 12) {x : Int32} (h : pd_SP L x) : x < 0 ↔ x = -1 := by
  rcases h with e | ⟨w, hw, e⟩
  · rw [e]; exact ⟨fun _ => rfl, fun _ => by decide⟩
  · have := pd_12lt hL hw
    rw [e]
    exact ⟨fun z => absurd z (nI_pos (by omega)), fun z => absurd z (pd_ne1 (by omega))⟩
theorem pd_faS {th pa : Nat → Int32} {L : List Nat} {rk : Nat → Nat} (H : pd_BI th pa L rk) (G : Nat → pd_V) (x y : Int32) : pd_SP L (pd_fa G x y (pd_ord pa L) (-1)) := by
  rcases pd_faM (G := G) (x := x) (y := y) (pd_ord pa L) (-1) with e | ⟨w, hw, e⟩
  · exact Or.inl e
  · exact Or.inr ⟨w, (pd_ordM H w).mp hw, e⟩
/-! the pointer moves -/
theorem pd_hov {L : List Nat} {rk : Nat → Nat} {G : Nat → pd_V} (x y : Int32) (hM : pd_MM a_there a_parents L rk f_stacked a_stack b_kidCount b_kids a_wishedPlaces a_wishedSizes a_weights a_layouts a_targets a_shifts f_over f_pressed f_focus) (hG : pd_LE a_parents a_wishedPlaces a_wishedSizes a_shifts a_visible a_enabled a_layouts a_gaps a_weights L G) : ∃ (ov nc : Int32) (ns : Nat → Int32), pd_SP L ov ∧
    (∀ (f_treeSize : Int32) (a_tree a_seen a_able a_places a_sizes a_clipStarts a_clipEnds : Nat → Int32) (post : SX → Prop), pd_DG G a_parents L f_treeSize a_tree a_seen a_able a_places a_sizes a_clipStarts a_clipEnds → post (f_stacked, f_treeSize, ov, f_pressed, f_focus, f_waiting, nc, a_there, a_parents, a_kinds, a_colours, a_weights, a_gaps, a_layouts, a_values, a_effects, a_targets, a_visible, a_enabled, a_on, a_wishedPlaces, a_wishedSizes, a_shifts, a_stack, a_tree, a_seen, a_able, a_places, a_sizes, a_clipStarts, a_clipEnds, a_eventKinds, a_eventXs, a_eventYs, ns, a_pixels) → wpX_hover post (f_stacked, f_treeSize, f_over, f_pressed, f_focus, f_waiting, f_noteCount, a_there, a_parents, a_kinds, a_colours, a_weights, a_gaps, a_layouts, a_values, a_effects, a_targets, a_visible, a_enabled, a_on, a_wishedPlaces, a_wishedSizes, a_shifts, a_stack, a_tree, a_seen, a_able, a_places, a_sizes, a_clipStarts, a_clipEnds, a_eventKinds, a_eventXs, a_eventYs, a_notes, a_pixels) x y) ∧
    (∀ (g_many : Int32) (b_left b_top b_width b_height b_order b_stack : Nat → Int32) (post : SY → Prop), (∀ mn od st lf tp wd hg, post (mn, g_waiting, nc, ov, f_pressed, f_focus, g_acted, a_there, a_kinds, (fun j => a_wishedPlaces (2 * j)), (fun j => a_wishedPlaces (2 * j + 1)), (fun j => a_wishedSizes (2 * j)), (fun j => a_wishedSizes (2 * j + 1)), a_colours, a_layouts, a_gaps, a_weights, (fun j => a_shifts (2 * j)), (fun j => a_shifts (2 * j + 1)), a_visible, a_enabled, a_on, a_values, a_parents, a_effects, a_targets, b_kids, b_kidCount, lf, tp, wd, hg, od, st, a_pixels, b_events, ns)) → wpY_move post (g_many, g_waiting, f_noteCount, f_over, f_pressed, f_focus, g_acted, a_there, a_kinds, (fun j => a_wishedPlaces (2 * j)), (fun j => a_wishedPlaces (2 * j + 1)), (fun j => a_wishedSizes (2 * j)), (fun j => a_wishedSizes (2 * j + 1)), a_colours, a_layouts, a_gaps, a_weights, (fun j => a_shifts (2 * j)), (fun j => a_shifts (2 * j + 1)), a_visible, a_enabled, a_on, a_values, a_parents, a_effects, a_targets, b_kids, b_kidCount, b_left, b_top, b_width, b_height, b_order, b_stack, a_pixels, b_events, a_notes) x y) := by
  obtain ⟨hB, hS, hK, hV, ho, hpr, hf⟩ := hM
  have hr := pd_faS hB G x y
  have n1 := pd_SPneg hB.2.1 ho
  have n2 := pd_SPneg hB.2.1 hr
  by_cases c : pd_fa G x y (pd_ord a_parents L) (-1) = f_over
  · refine ⟨f_over, f_noteCount, a_notes, ho, fun f_treeSize a_tree a_seen a_able a_places a_sizes a_clipStarts a_clipEnds post hD h => ?_, fun g_many b_left b_top b_width b_height b_order b_stack post h => ?_⟩
    · unfold wpX_hover
      refine px_wat (G := G) hB hD (br_t c ?_)
      rw [c]; exact h
    · unfold wpY_move
      exact py_look (G := G) hB hK hV hG (fun mn od st lf tp wd hg => br_t c (h mn od st lf tp wd hg))
  · by_cases c1 : f_over = -1
    · by_cases c2 : pd_fa G x y (pd_ord a_parents L) (-1) = -1
      · exact absurd (c2.trans c1.symm) c
      · refine ⟨pd_fa G x y (pd_ord a_parents L) (-1), f_noteCount + 1, upd a_notes (f_noteCount &&& 15).toNatClampNeg (32 + pd_fa G x y (pd_ord a_parents L) (-1)), hr, fun f_treeSize a_tree a_seen a_able a_places a_sizes a_clipStarts a_clipEnds post hD h => ?_, fun g_many b_left b_top b_width b_height b_order b_stack post h => ?_⟩
        · unfold wpX_hover
          exact px_wat (G := G) hB hD (br_f c (br_t c1 (br_f c2 (px_note h))))
        · unfold wpY_move
          exact py_look (G := G) hB hK hV hG (fun mn od st lf tp wd hg => br_f c (br_t (n1.mpr c1) (br_f (fun z => c2 (n2.mp z)) (py_note (h mn od st lf tp wd hg)))))
    · by_cases c2 : pd_fa G x y (pd_ord a_parents L) (-1) = -1
      · refine ⟨pd_fa G x y (pd_ord a_parents L) (-1), f_noteCount + 1, upd a_notes (f_noteCount &&& 15).toNatClampNeg (16 + f_over), hr, fun f_treeSize a_tree a_seen a_able a_places a_sizes a_clipStarts a_clipEnds post hD h => ?_, fun g_many b_left b_top b_width b_height b_order b_stack post h => ?_⟩
        · unfold wpX_hover
          exact px_wat (G := G) hB hD (br_f c (br_f c1 (px_note (br_t c2 h))))
        · unfold wpY_move
          exact py_look (G := G) hB hK hV hG (fun mn od st lf tp wd hg => br_f c (br_f (fun z => c1 (n1.mp z)) (py_note (br_t (n2.mpr c2) (h mn od st lf tp wd hg)))))
      · refine ⟨pd_fa G x y (pd_ord a_parents L) (-1), f_noteCount + 1 + 1, upd (upd a_notes (f_noteCount &&& 15).toNatClampNeg (16 + f_over)) ((f_noteCount + 1) &&& 15).toNatClampNeg (32 + pd_fa G x y (pd_ord a_parents L) (-1)), hr, fun f_treeSize a_tree a_seen a_able a_places a_sizes a_clipStarts a_clipEnds post hD h => ?_, fun g_many b_left b_top b_width b_height b_order b_stack post h => ?_⟩
        · unfold wpX_hover
          exact px_wat (G := G) hB hD (br_f c (br_f c1 (px_note (br_f c2 (px_note h)))))
        · unfold wpY_move
          exact py_look (G := G) hB hK hV hG (fun mn od st lf tp wd hg => br_f c (br_f (fun z => c1 (n1.mp z)) (py_note (br_f (fun z => c2 (n2.mp z)) (py_note (h mn od st lf tp wd hg))))))
/-! the focus goes round -/
theorem px_pos {post : Int32 → Prop} {N : Nat} {x : Int32} (hN : N ≤ 12) : ∀ (A B : List Nat) (i n : Nat), pd_sg a_tree i (A ++ B) → i + (A ++ B).length = N → (A ++ B).length < n → (∀ w, w ∈ A → ¬ nI w = x) →
    ((B = [] ∧ post (-1)) ∨ (∃ w R, B = w :: R ∧ nI w = x ∧ post (nI (i + A.length)))) → wX_positionInTree_2 post x f_stacked (nI N) f_over f_pressed f_focus f_waiting f_noteCount a_there a_parents a_kinds a_colours a_weights a_gaps a_layouts a_values a_effects a_targets a_visible a_enabled a_on a_wishedPlaces a_wishedSizes a_shifts a_stack a_tree a_seen a_able a_places a_sizes a_clipStarts a_clipEnds a_eventKinds a_eventXs a_eventYs a_notes a_pixels n (nI i) := by
  intro A
  induction A with
  | nil =>
    intro B i n hs hi hn _ h
    obtain ⟨n, rfl⟩ : ∃ m, n = m + 1 := ⟨n - 1, by omega⟩
    rw [wX_positionInTree_2]
    rcases h with ⟨eB, hp⟩ | ⟨w, R, eB, ew, hp⟩
    · subst eB
      have hi' : i = N := hi
      exact br_t (by rw [hi']; exact Int32.le_refl _) hp
    · subst eB
      rw [List.nil_append, List.length_cons] at hi
      refine br_f (nI_ge (by omega) (by omega)) ⟨vp_in_nI (by omega) (by omega), br_t ?_ hp⟩
      rw [pd_cl (by omega)]
      exact hs.1.trans ew
  | cons w A ih =>
    intro B i n hs hi hn hA h
    obtain ⟨n, rfl⟩ : ∃ m, n = m + 1 := ⟨n - 1, by omega⟩
    rw [List.cons_append, List.length_cons] at hi hn
    rw [wX_positionInTree_2]
    refine br_f (nI_ge (by omega) (by omega)) ⟨vp_in_nI (by omega) (by omega), br_f ?_ (nm_r (nI_1 i) (ih B (i + 1) n hs.2 (by omega) (by omega) (fun v hv => hA v (List.mem_cons_of_mem _ hv)) ?_))⟩
    · rw [pd_cl (by omega), hs.1]
      exact hA w (List.mem_cons_self ..)
    · rcases h with z | ⟨v, R, eB, ew, hp⟩
      · exact Or.inl z
      · rw [List.length_cons, show i + (A.length + 1) = i + 1 + A.length by omega] at hp
        exact Or.inr ⟨v, R, eB, ew, hp⟩
theorem py_tab13 {post : SY → Prop} {N : Nat} (hN : N ≤ 12) : ∀ (R : List Nat) (i n : Nat) (f : Int32), pd_sg b_order i R → i + R.length = N → R.length < n → (∀ w, w ∈ R → ¬ nI w = f_focus) → (∃ n44, wY_tab_44 post f (nI N) g_waiting f_noteCount f_over f_pressed f_focus g_acted a_there a_kinds (fun j => a_wishedPlaces (2 * j)) (fun j => a_wishedPlaces (2 * j + 1)) (fun j => a_wishedSizes (2 * j)) (fun j => a_wishedSizes (2 * j + 1)) a_colours a_layouts a_gaps a_weights (fun j => a_shifts (2 * j)) (fun j => a_shifts (2 * j + 1)) a_visible a_enabled a_on a_values a_parents a_effects a_targets b_kids b_kidCount b_left b_top b_width b_height b_order b_stack a_pixels b_events a_notes n44 1) → wY_tab_13 post (nI N) g_waiting f_noteCount f_over f_pressed f_focus g_acted a_there a_kinds (fun j => a_wishedPlaces (2 * j)) (fun j => a_wishedPlaces (2 * j + 1)) (fun j => a_wishedSizes (2 * j)) (fun j => a_wishedSizes (2 * j + 1)) a_colours a_layouts a_gaps a_weights (fun j => a_shifts (2 * j)) (fun j => a_shifts (2 * j + 1)) a_visible a_enabled a_on a_values a_parents a_effects a_targets b_kids b_kidCount b_left b_top b_width b_height b_order b_stack a_pixels b_events a_notes n f (nI i) := by
  intro R
  induction R with
  | nil =>
    intro i n f _ hi hn _ h
    obtain ⟨n, rfl⟩ : ∃ m, n = m + 1 := ⟨n - 1, by omega⟩
    rw [wY_tab_13]
    have hi' : i = N := hi
    exact br_t (by rw [hi']; exact Int32.le_refl _) h
  | cons w R ih =>
    intro i n f hs hi hn hR h
    obtain ⟨n, rfl⟩ : ∃ m, n = m + 1 := ⟨n - 1, by omega⟩
    rw [List.length_cons] at hi hn
    rw [wY_tab_13]
    refine br_f (nI_ge (by omega) (by omega)) ⟨vp_in_nI (by omega) (by omega), br_f ?_ (nm_r (nI_1 i) (ih (i + 1) n f hs.2 (by omega) (by omega) (fun v hv => hR v (List.mem_cons_of_mem _ hv)) h))⟩
    rw [pd_cl (by omega), hs.1]
    exact hR w (List.mem_cons_self ..)
theorem py_tab13w {post : SY → Prop} {N w : Nat} {B : List Nat} (hN : N ≤ 12) (hw : nI w = f_focus) (hB : ∀ v, v ∈ B → ¬ nI v = f_focus) : ∀ (A : List Nat) (i n : Nat) (f : Int32), pd_sg b_order i (A ++ w :: B) → i + (A ++ w :: B).length = N → (A ++ w :: B).length < n → (∀ w, w ∈ A → ¬ nI w = f_focus) →
    (∃ n44, wY_tab_44 post (nI (i + A.length)) (nI N) g_waiting f_noteCount f_over f_pressed f_focus g_acted a_there a_kinds (fun j => a_wishedPlaces (2 * j)) (fun j => a_wishedPlaces (2 * j + 1)) (fun j => a_wishedSizes (2 * j)) (fun j => a_wishedSizes (2 * j + 1)) a_colours a_layouts a_gaps a_weights (fun j => a_shifts (2 * j)) (fun j => a_shifts (2 * j + 1)) a_visible a_enabled a_on a_values a_parents a_effects a_targets b_kids b_kidCount b_left b_top b_width b_height b_order b_stack a_pixels b_events a_notes n44 1) → wY_tab_13 post (nI N) g_waiting f_noteCount f_over f_pressed f_focus g_acted a_there a_kinds (fun j => a_wishedPlaces (2 * j)) (fun j => a_wishedPlaces (2 * j + 1)) (fun j => a_wishedSizes (2 * j)) (fun j => a_wishedSizes (2 * j + 1)) a_colours a_layouts a_gaps a_weights (fun j => a_shifts (2 * j)) (fun j => a_shifts (2 * j + 1)) a_visible a_enabled a_on a_values a_parents a_effects a_targets b_kids b_kidCount b_left b_top b_width b_height b_order b_stack a_pixels b_events a_notes n f (nI i) := by
  intro A
  induction A with
  | nil =>
    intro i n f hs hi hn _ h
    obtain ⟨n, rfl⟩ : ∃ m, n = m + 1 := ⟨n - 1, by omega⟩
    rw [List.nil_append, List.length_cons] at hi hn
    rw [wY_tab_13]
    refine br_f (nI_ge (by omega) (by omega)) ⟨vp_in_nI (by omega) (by omega), br_t ?_ (nm_r (nI_1 i) (py_tab13 hN B (i + 1) n _ hs.2 (by omega) (by omega) hB h))⟩
    rw [pd_cl (by omega)]
    exact hs.1.trans hw
  | cons v A ih =>
    intro i n f hs hi hn hA h
    obtain ⟨n, rfl⟩ : ∃ m, n = m + 1 := ⟨n - 1, by omega⟩
    rw [List.cons_append, List.length_cons] at hi hn
    rw [wY_tab_13]
    refine br_f (nI_ge (by omega) (by omega)) ⟨vp_in_nI (by omega) (by omega), br_f ?_ (nm_r (nI_1 i) (ih (i + 1) n f hs.2 (by omega) (by omega) (fun v hv => hA v (List.mem_cons_of_mem _ hv)) ?_))⟩
    · rw [pd_cl (by omega), hs.1]
      exact hA v (List.mem_cons_self ..)
    · rw [List.length_cons, show i + (A.length + 1) = i + 1 + A.length by omega] at h
      exact h
theorem pd_round {L : List Nat} {rk : Nat → Nat} {G : Nat → pd_V} {N fr : Nat} (hM : pd_MM a_there a_parents L rk f_stacked a_stack b_kidCount b_kids a_wishedPlaces a_wishedSizes a_weights a_layouts a_targets a_shifts f_over f_pressed f_focus) (hG : pd_LE a_parents a_wishedPlaces a_wishedSizes a_shifts a_visible a_enabled a_layouts a_gaps a_weights L G) (hN : N = (pd_ord a_parents L).length) (hN0 : 0 < N) (hfr : fr < N) :
    ∀ (d s : Nat) (xp : Int32), s + d = N → ((xp + 1 < nI N ∧ xp + 1 = nI ((fr + 1 + s) % N)) ∨ (¬ xp + 1 < nI N ∧ (fr + 1 + s) % N = 0)) → ∃ (fo nc : Int32) (ns : Nat → Int32), pd_SP L fo ∧
    (∀ (f_treeSize : Int32) (a_tree a_seen a_able a_places a_sizes a_clipStarts a_clipEnds : Nat → Int32) (post : SX → Prop), pd_DG G a_parents L f_treeSize a_tree a_seen a_able a_places a_sizes a_clipStarts a_clipEnds → post (f_stacked, f_treeSize, f_over, f_pressed, fo, f_waiting, nc, a_there, a_parents, a_kinds, a_colours, a_weights, a_gaps, a_layouts, a_values, a_effects, a_targets, a_visible, a_enabled, a_on, a_wishedPlaces, a_wishedSizes, a_shifts, a_stack, a_tree, a_seen, a_able, a_places, a_sizes, a_clipStarts, a_clipEnds, a_eventKinds, a_eventXs, a_eventYs, ns, a_pixels) → wX_moveFocus_11 post f_stacked f_treeSize f_over f_pressed f_focus f_waiting f_noteCount a_there a_parents a_kinds a_colours a_weights a_gaps a_layouts a_values a_effects a_targets a_visible a_enabled a_on a_wishedPlaces a_wishedSizes a_shifts a_stack a_tree a_seen a_able a_places a_sizes a_clipStarts a_clipEnds a_eventKinds a_eventXs a_eventYs a_notes a_pixels (d + 1) xp (nI s)) ∧
    (∀ (g_many : Int32) (b_left b_top b_width b_height b_order b_stack : Nat → Int32) (post : SY → Prop), pd_YO G a_parents L g_many b_order b_left b_top b_width b_height → post (g_many, g_waiting, nc, f_over, f_pressed, fo, g_acted, a_there, a_kinds, (fun j => a_wishedPlaces (2 * j)), (fun j => a_wishedPlaces (2 * j + 1)), (fun j => a_wishedSizes (2 * j)), (fun j => a_wishedSizes (2 * j + 1)), a_colours, a_layouts, a_gaps, a_weights, (fun j => a_shifts (2 * j)), (fun j => a_shifts (2 * j + 1)), a_visible, a_enabled, a_on, a_values, a_parents, a_effects, a_targets, b_kids, b_kidCount, b_left, b_top, b_width, b_height, b_order, b_stack, a_pixels, b_events, ns) → wY_tab_44 post (nI fr) g_many g_waiting f_noteCount f_over f_pressed f_focus g_acted a_there a_kinds (fun j => a_wishedPlaces (2 * j)) (fun j => a_wishedPlaces (2 * j + 1)) (fun j => a_wishedSizes (2 * j)) (fun j => a_wishedSizes (2 * j + 1)) a_colours a_layouts a_gaps a_weights (fun j => a_shifts (2 * j)) (fun j => a_shifts (2 * j + 1)) a_visible a_enabled a_on a_values a_parents a_effects a_targets b_kids b_kidCount b_left b_top b_width b_height b_order b_stack a_pixels b_events a_notes (d + 1) (nI (s + 1))) := by
  obtain ⟨hB, hS, hK, hV, ho, hpr, hf⟩ := hM
  have hl := pd_ordL hB
  intro d
  induction d with
  | zero =>
    intro s xp hs _
    have e : s = N := hs
    refine ⟨f_focus, f_noteCount, a_notes, hf, fun f_treeSize a_tree a_seen a_able a_places a_sizes a_clipStarts a_clipEnds post hD h => ?_, fun g_many b_left b_top b_width b_height b_order b_stack post hO h => ?_⟩
    · obtain ⟨rfl, _, _⟩ := hD
      rw [wX_moveFocus_11]
      exact br_t (by rw [e, hN]; exact Int32.le_refl _) h
    · obtain ⟨rfl, _, _⟩ := hO
      rw [wY_tab_44]
      exact br_t (by rw [← hN]; exact nI_lt (by omega) (by omega)) h
  | succ d ih =>
    intro s xp hs hxp
    have hq : (fr + 1 + s) % N < N := Nat.mod_lt _ hN0
    have hqO : (fr + 1 + s) % N < (pd_ord a_parents L).length := hN ▸ hq
    -- the widget in question
    obtain ⟨w, ew⟩ : ∃ w, (pd_ord a_parents L)[(fr + 1 + s) % N] = w := ⟨_, rfl⟩
    have hwO : w ∈ pd_ord a_parents L := ew ▸ List.getElem_mem hqO
    have hw := (pd_ordM hB w).mp hwO
    have hw12 := pd_12lt hB.2.1 hw
    have vw : vp_in (nI w) 12 := vp_in_nI hw12 (by omega)
    have cw : (nI w).toNatClampNeg = w := pd_cl (by omega)
    have hn : ¬ nI N ≤ nI s := nI_ge (by omega) (by omega)
    -- X comes to it
    have xgo : ∀ (f_treeSize : Int32) (a_tree a_seen a_able a_places a_sizes a_clipStarts a_clipEnds : Nat → Int32) (post : SX → Prop) (J : _), pd_DG G a_parents L f_treeSize a_tree a_seen a_able a_places a_sizes a_clipStarts a_clipEnds → wX_moveFocus_32 post J (nI ((fr + 1 + s) % N)) (nI s) f_stacked f_treeSize f_over f_pressed f_focus f_waiting f_noteCount a_there a_parents a_kinds a_colours a_weights a_gaps a_layouts a_values a_effects a_targets a_visible a_enabled a_on a_wishedPlaces a_wishedSizes a_shifts a_stack a_tree a_seen a_able a_places a_sizes a_clipStarts a_clipEnds a_eventKinds a_eventXs a_eventYs a_notes a_pixels → (∀ (K : Prop), ((xp + 1 < f_treeSize → wX_moveFocus_32 post J (xp + 1) (nI s) f_stacked f_treeSize f_over f_pressed f_focus f_waiting f_noteCount a_there a_parents a_kinds a_colours a_weights a_gaps a_layouts a_values a_effects a_targets a_visible a_enabled a_on a_wishedPlaces a_wishedSizes a_shifts a_stack a_tree a_seen a_able a_places a_sizes a_clipStarts a_clipEnds a_eventKinds a_eventXs a_eventYs a_notes a_pixels) ∧ (¬ xp + 1 < f_treeSize → wX_moveFocus_32 post J 0 (nI s) f_stacked f_treeSize f_over f_pressed f_focus f_waiting f_noteCount a_there a_parents a_kinds a_colours a_weights a_gaps a_layouts a_values a_effects a_targets a_visible a_enabled a_on a_wishedPlaces a_wishedSizes a_shifts a_stack a_tree a_seen a_able a_places a_sizes a_clipStarts a_clipEnds a_eventKinds a_eventXs a_eventYs a_notes a_pixels) → K) → K) := by
      intro f_treeSize a_tree a_seen a_able a_places a_sizes a_clipStarts a_clipEnds post J hD h K hK
      obtain ⟨rfl, _, _⟩ := hD
      rw [← hN] at hK h
      apply hK
      rcases hxp with ⟨a1, a2⟩ | ⟨a1, a2⟩
      · refine br_t a1 ?_
        rw [a2]; exact h
      · refine br_f a1 ?_
        rw [a2] at h; exact h
    have x32 : ∀ (f_treeSize : Int32) (a_tree a_seen a_able a_places a_sizes a_clipStarts a_clipEnds : Nat → Int32) (post : SX → Prop) (J : _), pd_DG G a_parents L f_treeSize a_tree a_seen a_able a_places a_sizes a_clipStarts a_clipEnds → ((a_kinds w = 0 → J (nI ((fr + 1 + s) % N)) (nI (s + 1))) ∧ (¬ a_kinds w = 0 → (((G w).2.2.1 = 0 → J (nI ((fr + 1 + s) % N)) (nI (s + 1))) ∧ (¬ (G w).2.2.1 = 0 → (((G w).2.2.2.1 = 0 → J (nI ((fr + 1 + s) % N)) (nI (s + 1))) ∧ (¬ (G w).2.2.2.1 = 0 → wpX_giveFocus (fun u => match u with | (f_stacked1, f_treeSize1, f_over1, f_pressed1, f_focus1, f_waiting1, f_noteCount1, a_there1, a_parents1, a_kinds1, a_colours1, a_weights1, a_gaps1, a_layouts1, a_values1, a_effects1, a_targets1, a_visible1, a_enabled1, a_on1, a_wishedPlaces1, a_wishedSizes1, a_shifts1, a_stack1, a_tree1, a_seen1, a_able1, a_places1, a_sizes1, a_clipStarts1, a_clipEnds1, a_eventKinds1, a_eventXs1, a_eventYs1, a_notes1, a_pixels1) => post (f_stacked1, f_treeSize1, f_over1, f_pressed1, f_focus1, f_waiting1, f_noteCount1, a_there1, a_parents1, a_kinds1, a_colours1, a_weights1, a_gaps1, a_layouts1, a_values1, a_effects1, a_targets1, a_visible1, a_enabled1, a_on1, a_wishedPlaces1, a_wishedSizes1, a_shifts1, a_stack1, a_tree1, a_seen1, a_able1, a_places1, a_sizes1, a_clipStarts1, a_clipEnds1, a_eventKinds1, a_eventXs1, a_eventYs1, a_notes1, a_pixels1)) (f_stacked, f_treeSize, f_over, f_pressed, f_focus, f_waiting, f_noteCount, a_there, a_parents, a_kinds, a_colours, a_weights, a_gaps, a_layouts, a_values, a_effects, a_targets, a_visible, a_enabled, a_on, a_wishedPlaces, a_wishedSizes, a_shifts, a_stack, a_tree, a_seen, a_able, a_places, a_sizes, a_clipStarts, a_clipEnds, a_eventKinds, a_eventXs, a_eventYs, a_notes, a_pixels) (nI w))))))) → wX_moveFocus_32 post J (nI ((fr + 1 + s) % N)) (nI s) f_stacked f_treeSize f_over f_pressed f_focus f_waiting f_noteCount a_there a_parents a_kinds a_colours a_weights a_gaps a_layouts a_values a_effects a_targets a_visible a_enabled a_on a_wishedPlaces a_wishedSizes a_shifts a_stack a_tree a_seen a_able a_places a_sizes a_clipStarts a_clipEnds a_eventKinds a_eventXs a_eventYs a_notes a_pixels := by
      intro f_treeSize a_tree a_seen a_able a_places a_sizes a_clipStarts a_clipEnds post J hD h
      obtain ⟨_, hs2, hd⟩ := hD
      obtain ⟨_, es, ea⟩ := hd w hw
      refine ⟨vp_in_nI (by omega) (by omega), nm_r (e' := nI w) ?_ ⟨vw, ?_⟩⟩
      · rw [pd_cl (by omega)]
        have z := pd_sg_g (pd_ord a_parents L) 0 ((fr + 1 + s) % N) hqO hs2
        rw [Nat.zero_add, ew] at z
        exact z
      · rw [cw, es, ea]
        by_cases k1 : a_kinds w = 0
        · exact br_t k1 (nm_r (nI_1 s) (h.1 k1))
        · refine br_f k1 ⟨vw, ?_⟩
          by_cases k2 : (G w).2.2.1 = 0
          · exact br_t k2 (nm_r (nI_1 s) ((h.2 k1).1 k2))
          · refine br_f k2 ⟨vw, ?_⟩
            by_cases k3 : (G w).2.2.2.1 = 0
            · exact br_t k3 (nm_r (nI_1 s) (((h.2 k1).2 k2).1 k3))
            · exact br_f k3 (((h.2 k1).2 k2).2 k3)
    have y44 : ∀ (g_many : Int32) (b_left b_top b_width b_height b_order b_stack : Nat → Int32) (post : SY → Prop), pd_YO G a_parents L g_many b_order b_left b_top b_width b_height → ((a_kinds w = 0 → wY_tab_44 post (nI fr) g_many g_waiting f_noteCount f_over f_pressed f_focus g_acted a_there a_kinds (fun j => a_wishedPlaces (2 * j)) (fun j => a_wishedPlaces (2 * j + 1)) (fun j => a_wishedSizes (2 * j)) (fun j => a_wishedSizes (2 * j + 1)) a_colours a_layouts a_gaps a_weights (fun j => a_shifts (2 * j)) (fun j => a_shifts (2 * j + 1)) a_visible a_enabled a_on a_values a_parents a_effects a_targets b_kids b_kidCount b_left b_top b_width b_height b_order b_stack a_pixels b_events a_notes (d + 1) (nI (s + 1 + 1))) ∧ (¬ a_kinds w = 0 → (((G w).2.2.1 = 0 → wY_tab_44 post (nI fr) g_many g_waiting f_noteCount f_over f_pressed f_focus g_acted a_there a_kinds (fun j => a_wishedPlaces (2 * j)) (fun j => a_wishedPlaces (2 * j + 1)) (fun j => a_wishedSizes (2 * j)) (fun j => a_wishedSizes (2 * j + 1)) a_colours a_layouts a_gaps a_weights (fun j => a_shifts (2 * j)) (fun j => a_shifts (2 * j + 1)) a_visible a_enabled a_on a_values a_parents a_effects a_targets b_kids b_kidCount b_left b_top b_width b_height b_order b_stack a_pixels b_events a_notes (d + 1) (nI (s + 1 + 1))) ∧ (¬ (G w).2.2.1 = 0 → (((G w).2.2.2.1 = 0 → wY_tab_44 post (nI fr) g_many g_waiting f_noteCount f_over f_pressed f_focus g_acted a_there a_kinds (fun j => a_wishedPlaces (2 * j)) (fun j => a_wishedPlaces (2 * j + 1)) (fun j => a_wishedSizes (2 * j)) (fun j => a_wishedSizes (2 * j + 1)) a_colours a_layouts a_gaps a_weights (fun j => a_shifts (2 * j)) (fun j => a_shifts (2 * j + 1)) a_visible a_enabled a_on a_values a_parents a_effects a_targets b_kids b_kidCount b_left b_top b_width b_height b_order b_stack a_pixels b_events a_notes (d + 1) (nI (s + 1 + 1))) ∧ (¬ (G w).2.2.2.1 = 0 → wpY_give (fun u => match u with | (g_many1, g_waiting1, g_noteCount1, g_over1, g_pressed1, g_focus1, g_acted1, b_there1, b_kind1, b_wishX1, b_wishY1, b_wishW1, b_wishH1, b_colour1, b_layout1, b_gap1, b_weight1, b_shiftX1, b_shiftY1, b_visible1, b_enabled1, b_on1, b_value1, b_parent1, b_effects1, b_targets1, b_kids1, b_kidCount1, b_left1, b_top1, b_width1, b_height1, b_order1, b_stack1, b_pixels1, b_events1, b_notes1) => post (g_many1, g_waiting1, g_noteCount1, g_over1, g_pressed1, g_focus1, g_acted1, b_there1, b_kind1, b_wishX1, b_wishY1, b_wishW1, b_wishH1, b_colour1, b_layout1, b_gap1, b_weight1, b_shiftX1, b_shiftY1, b_visible1, b_enabled1, b_on1, b_value1, b_parent1, b_effects1, b_targets1, b_kids1, b_kidCount1, b_left1, b_top1, b_width1, b_height1, b_order1, b_stack1, b_pixels1, b_events1, b_notes1)) (g_many, g_waiting, f_noteCount, f_over, f_pressed, f_focus, g_acted, a_there, a_kinds, (fun j => a_wishedPlaces (2 * j)), (fun j => a_wishedPlaces (2 * j + 1)), (fun j => a_wishedSizes (2 * j)), (fun j => a_wishedSizes (2 * j + 1)), a_colours, a_layouts, a_gaps, a_weights, (fun j => a_shifts (2 * j)), (fun j => a_shifts (2 * j + 1)), a_visible, a_enabled, a_on, a_values, a_parents, a_effects, a_targets, b_kids, b_kidCount, b_left, b_top, b_width, b_height, b_order, b_stack, a_pixels, b_events, a_notes) (nI w))))))) → wY_tab_44 post (nI fr) g_many g_waiting f_noteCount f_over f_pressed f_focus g_acted a_there a_kinds (fun j => a_wishedPlaces (2 * j)) (fun j => a_wishedPlaces (2 * j + 1)) (fun j => a_wishedSizes (2 * j)) (fun j => a_wishedSizes (2 * j + 1)) a_colours a_layouts a_gaps a_weights (fun j => a_shifts (2 * j)) (fun j => a_shifts (2 * j + 1)) a_visible a_enabled a_on a_values a_parents a_effects a_targets b_kids b_kidCount b_left b_top b_width b_height b_order b_stack a_pixels b_events a_notes (d + 1 + 1) (nI (s + 1)) := by
      intro g_many b_left b_top b_width b_height b_order b_stack post hO h
      obtain ⟨rfl, ho2, _⟩ := hO
      rw [← hN] at h ⊢
      have er : nI fr + nI (s + 1) - (nI fr + nI (s + 1)) / nI N * nI N = nI ((fr + 1 + s) % N) := by
        rw [nI_add, pk_rem (by omega) hN0 (by omega), show fr + (s + 1) = fr + 1 + s by omega]
      rw [wY_tab_44]
      dsimp only
      rw [er]
      refine br_f (nI_nlt (by omega) (by omega)) ⟨nI_ne0 hN0 (by omega), vp_in_nI (by omega) (by omega), nm_r (e' := nI w) ?_ ⟨vw, ?_⟩⟩
      · rw [pd_cl (by omega)]
        have z := pd_sg_g (pd_ord a_parents L) 0 ((fr + 1 + s) % N) hqO ho2
        rw [Nat.zero_add, ew] at z
        exact z
      · rw [cw]
        by_cases k1 : a_kinds w = 0
        · exact br_t k1 (nm_r (nI_1 _) (h.1 k1))
        · refine br_f k1 (py_seen (G := G) hB hG w hw (fun k2 => br_f (by decide) (py_able (G := G) hB hG w hw (fun k3 => br_f (by decide) (((h.2 k1).2 k2).2 k3)) (fun k3 => br_t rfl (nm_r (nI_1 _) (((h.2 k1).2 k2).1 k3))))) (fun k2 => br_t rfl (nm_r (nI_1 _) ((h.2 k1).1 k2))))
    by_cases cand : ¬ a_kinds w = 0 ∧ ¬ (G w).2.2.1 = 0 ∧ ¬ (G w).2.2.2.1 = 0
    · obtain ⟨k1, k2, k3⟩ := cand
      obtain ⟨fo, nc, ns, hfo, hx, hy⟩ := pd_give (f_stacked := f_stacked) (f_over := f_over) (f_pressed := f_pressed) (f_focus := f_focus) (f_waiting := f_waiting) (f_noteCount := f_noteCount) (a_there := a_there) (a_parents := a_parents) (a_kinds := a_kinds) (a_colours := a_colours) (a_weights := a_weights) (a_gaps := a_gaps) (a_layouts := a_layouts) (a_values := a_values) (a_effects := a_effects) (a_targets := a_targets) (a_visible := a_visible) (a_enabled := a_enabled) (a_on := a_on) (a_wishedPlaces := a_wishedPlaces) (a_wishedSizes := a_wishedSizes) (a_shifts := a_shifts) (a_stack := a_stack) (a_eventKinds := a_eventKinds) (a_eventXs := a_eventXs) (a_eventYs := a_eventYs) (a_notes := a_notes) (a_pixels := a_pixels) (g_waiting := g_waiting) (g_acted := g_acted) (b_kids := b_kids) (b_kidCount := b_kidCount) (b_events := b_events) hw12
      have hf' : pd_SP L fo := by
        rcases hfo with z | z
        · rw [z]; exact hf
        · exact Or.inr ⟨w, hw, z⟩
      refine ⟨fo, nc, ns, hf', fun f_treeSize a_tree a_seen a_able a_places a_sizes a_clipStarts a_clipEnds post hD h => ?_, fun g_many b_left b_top b_width b_height b_order b_stack post hO h => ?_⟩
      · have k := x32 f_treeSize a_tree a_seen a_able a_places a_sizes a_clipStarts a_clipEnds post (wX_moveFocus_11 post f_stacked f_treeSize f_over f_pressed f_focus f_waiting f_noteCount a_there a_parents a_kinds a_colours a_weights a_gaps a_layouts a_values a_effects a_targets a_visible a_enabled a_on a_wishedPlaces a_wishedSizes a_shifts a_stack a_tree a_seen a_able a_places a_sizes a_clipStarts a_clipEnds a_eventKinds a_eventXs a_eventYs a_notes a_pixels (d + 1)) hD (br_f k1 (br_f k2 (br_f k3 (hx f_treeSize a_tree a_seen a_able a_places a_sizes a_clipStarts a_clipEnds _ h))))
        rw [wX_moveFocus_11]
        refine br_f ?_ (nm_e (xgo f_treeSize a_tree a_seen a_able a_places a_sizes a_clipStarts a_clipEnds post _ hD k _ id))
        rw [hD.1, ← hN]; exact hn
      · exact y44 g_many b_left b_top b_width b_height b_order b_stack post hO (br_f k1 (br_f k2 (br_f k3 (hy g_many b_left b_top b_width b_height b_order b_stack _ h))))
    · obtain ⟨fo, nc, ns, hfo, hx, hy⟩ := ih (s + 1) (nI ((fr + 1 + s) % N)) (by omega) (by
        have e := pd_modS hN0 (fr + 1 + s)
        rw [show fr + 1 + (s + 1) = fr + 1 + s + 1 by omega, e, nI_1]
        by_cases c : N ≤ (fr + 1 + s) % N + 1
        · exact Or.inr ⟨nI_nlt c (by omega), if_pos c⟩
        · exact Or.inl ⟨nI_lt (by omega) (by omega), by rw [if_neg c]⟩)
      refine ⟨fo, nc, ns, hfo, fun f_treeSize a_tree a_seen a_able a_places a_sizes a_clipStarts a_clipEnds post hD h => ?_, fun g_many b_left b_top b_width b_height b_order b_stack post hO h => ?_⟩
      · have k0 := hx f_treeSize a_tree a_seen a_able a_places a_sizes a_clipStarts a_clipEnds post hD h
        have k := x32 f_treeSize a_tree a_seen a_able a_places a_sizes a_clipStarts a_clipEnds post (wX_moveFocus_11 post f_stacked f_treeSize f_over f_pressed f_focus f_waiting f_noteCount a_there a_parents a_kinds a_colours a_weights a_gaps a_layouts a_values a_effects a_targets a_visible a_enabled a_on a_wishedPlaces a_wishedSizes a_shifts a_stack a_tree a_seen a_able a_places a_sizes a_clipStarts a_clipEnds a_eventKinds a_eventXs a_eventYs a_notes a_pixels (d + 1)) hD (br_c (fun _ => k0) (fun k1 => br_c (fun _ => k0) (fun k2 => br_c (fun _ => k0) (fun k3 => absurd ⟨k1, k2, k3⟩ cand))))
        rw [wX_moveFocus_11]
        refine br_f ?_ (nm_e (xgo f_treeSize a_tree a_seen a_able a_places a_sizes a_clipStarts a_clipEnds post _ hD k _ id))
        rw [hD.1, ← hN]; exact hn
      · have k0 := hy g_many b_left b_top b_width b_height b_order b_stack post hO h
        exact y44 g_many b_left b_top b_width b_height b_order b_stack post hO (br_c (fun _ => k0) (fun k1 => br_c (fun _ => k0) (fun k2 => br_c (fun _ => k0) (fun k3 => absurd ⟨k1, k2, k3⟩ cand))))
end PDZ
