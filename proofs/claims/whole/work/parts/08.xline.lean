section PDH
variable {f_stacked f_treeSize f_over f_pressed f_focus f_waiting f_noteCount : Int32} {a_there a_parents a_kinds a_colours a_weights a_gaps a_layouts a_values a_effects a_targets a_visible a_enabled a_on a_wishedPlaces a_wishedSizes a_shifts a_stack a_tree a_seen a_able a_places a_sizes a_clipStarts a_clipEnds a_eventKinds a_eventXs a_eventYs a_notes a_pixels : Nat → Int32}
/-! P: X: rows and columns -/
theorem px_stand {post : Int32 → Prop} {c : Nat} {x : Int32} (hc : c < 12) (h1 : a_parents c = x → ¬ a_visible c = 0 → post 1) (h0 : ¬ (a_parents c = x ∧ ¬ a_visible c = 0) → post 0) : wpX_standsInLine post (f_stacked, f_treeSize, f_over, f_pressed, f_focus, f_waiting, f_noteCount, a_there, a_parents, a_kinds, a_colours, a_weights, a_gaps, a_layouts, a_values, a_effects, a_targets, a_visible, a_enabled, a_on, a_wishedPlaces, a_wishedSizes, a_shifts, a_stack, a_tree, a_seen, a_able, a_places, a_sizes, a_clipStarts, a_clipEnds, a_eventKinds, a_eventXs, a_eventYs, a_notes, a_pixels) (nI c) x := by
  have vc : vp_in (nI c) 12 := vp_in_nI hc (by omega)
  have cc : (nI c).toNatClampNeg = c := pd_cl (by omega)
  refine ⟨vc, ?_⟩
  rw [cc]
  by_cases a : a_parents c = x
  · refine br_t a ⟨vc, ?_⟩
    by_cases b : a_visible c = 0
    · exact br_t b (h0 (fun z => z.2 b))
    · exact br_f b (h1 a b)
  · exact br_f a (h0 (fun z => a z.1))
theorem px_share {post : Int32 → Prop} {c : Nat} {lo sw : Int32} (hc : c < 12) (h : post (pd_sh lo sw (a_weights c))) : wpX_share post (f_stacked, f_treeSize, f_over, f_pressed, f_focus, f_waiting, f_noteCount, a_there, a_parents, a_kinds, a_colours, a_weights, a_gaps, a_layouts, a_values, a_effects, a_targets, a_visible, a_enabled, a_on, a_wishedPlaces, a_wishedSizes, a_shifts, a_stack, a_tree, a_seen, a_able, a_places, a_sizes, a_clipStarts, a_clipEnds, a_eventKinds, a_eventXs, a_eventYs, a_notes, a_pixels) (nI c) lo sw := by
  unfold pd_sh at h
  by_cases a : sw ≤ 0
  · rw [if_neg (Int32.not_lt.mpr a)] at h
    exact br_t a h
  · rw [if_pos (Int32.not_le.mp a)] at h
    refine br_f a ⟨vp_in_nI hc (by omega), fun z => a (by rw [z]; exact Int32.le_refl _), ?_⟩
    rw [pd_cl (by omega)]
    exact h
theorem pd_kdy {pa : Nat → Int32} {c p : Nat} {R : List Nat} (h : pa c = nI p) : pd_kd pa (c :: R) p = c :: pd_kd pa R p := by unfold pd_kd; simp [h]
theorem pd_kdn {pa : Nat → Int32} {c p : Nat} {R : List Nat} (h : ¬ pa c = nI p) : pd_kd pa (c :: R) p = pd_kd pa R p := by unfold pd_kd; simp [h]
theorem px_llo17 {post : Int32 → Prop} {p a N : Nat} (hp : p < 12) (ha : a < 2) (hN : N ≤ 12) :
    ∀ (R : List Nat) (i m n : Nat) (r : Int32), pd_sg a_stack i R → i + R.length = N → R.length < n → m + R.length ≤ 12 → (∀ c, c ∈ R → c < 12) →
    post (pd_po (pd_l1 (a_gaps p) (pd_sn a_visible (pd_kd a_parents R p) m) (pd_sr a_wishedSizes a_visible a (pd_kd a_parents R p) r))) →
    wX_lengthLeftOver_17 post (nI p) (nI a) (nI N) f_treeSize f_over f_pressed f_focus f_waiting f_noteCount a_there a_parents a_kinds a_colours a_weights a_gaps a_layouts a_values a_effects a_targets a_visible a_enabled a_on a_wishedPlaces a_wishedSizes a_shifts a_stack a_tree a_seen a_able a_places a_sizes a_clipStarts a_clipEnds a_eventKinds a_eventXs a_eventYs a_notes a_pixels n (nI m) r (nI i) := by
  intro R
  induction R with
  | nil =>
    intro i m n r _ hi hn hm _ h
    obtain ⟨n, rfl⟩ : ∃ k, n = k + 1 := ⟨n - 1, by omega⟩
    rw [wX_lengthLeftOver_17]
    have hi' : i = N := hi
    refine br_t (by rw [hi']; exact Int32.le_refl _) ?_
    have h91 : ∀ x, x = pd_l1 (a_gaps p) m r → wX_lengthLeftOver_91 post x (nI N) f_treeSize f_over f_pressed f_focus f_waiting f_noteCount a_there a_parents a_kinds a_colours a_weights a_gaps a_layouts a_values a_effects a_targets a_visible a_enabled a_on a_wishedPlaces a_wishedSizes a_shifts a_stack a_tree a_seen a_able a_places a_sizes a_clipStarts a_clipEnds a_eventKinds a_eventXs a_eventYs a_notes a_pixels := by
      intro x ex
      subst ex
      have h' : post (pd_po (pd_l1 (a_gaps p) m r)) := h
      unfold pd_po at h'
      by_cases c : pd_l1 (a_gaps p) m r ≤ 0
      · rw [if_neg (Int32.not_lt.mpr c)] at h'
        exact br_t c h'
      · rw [if_pos (Int32.not_le.mp c)] at h'
        exact br_f c h'
    by_cases c : m ≤ 1
    · exact br_t (nI_le (b := 1) c (by decide)) (h91 r (by unfold pd_l1; rw [if_neg (by omega)]))
    · exact br_f (nI_ge (a := 1) (by omega) (by omega)) ⟨vp_in_nI hp (by omega), nm_r (e' := r - (nI m - 1) * a_gaps p) (by rw [pd_cl (by omega)]) (h91 _ (by unfold pd_l1; rw [if_pos (by omega)]))⟩
  | cons c R ih =>
    intro i m n r hst hi hn hm hc h
    obtain ⟨n, rfl⟩ : ∃ k, n = k + 1 := ⟨n - 1, by omega⟩
    rw [List.length_cons] at hi hn hm
    have hc12 : c < 12 := hc c (List.mem_cons_self ..)
    have es : a_stack (nI i).toNatClampNeg = nI c := by rw [pd_cl (by omega)]; exact hst.1
    obtain ⟨vI, cI⟩ := px_ix hc12 ha
    have hR : ∀ d, d ∈ R → d < 12 := fun d hd => hc d (List.mem_cons_of_mem _ hd)
    rw [wX_lengthLeftOver_17]
    dsimp only
    rw [es]
    refine br_f (nI_ge (by omega) (by omega)) ⟨vp_in_nI (by omega) (by omega), px_stand hc12 (fun e1 e2 => ?_) (fun e0 => ?_)⟩
    · refine br_f (by decide) ⟨vp_in_nI (by omega) (by omega), vI, nm_r (e' := r - a_wishedSizes (2 * c + a)) (by rw [cI]) (nm_r (nI_1 m) (nm_r (nI_1 i) ?_))⟩
      rw [pd_kdy e1] at h
      simp only [pd_sn, pd_sr, if_neg e2] at h
      exact ih (i + 1) (m + 1) n _ hst.2 (by omega) (by omega) (by omega) hR h
    · refine br_t rfl (nm_r (nI_1 i) (ih (i + 1) m n r hst.2 (by omega) (by omega) (by omega) hR ?_))
      by_cases e1 : a_parents c = nI p
      · have e2 : a_visible c = 0 := Classical.byContradiction fun z => e0 ⟨e1, z⟩
        rw [pd_kdy e1] at h
        simp only [pd_sn, pd_sr, if_pos e2] at h
        exact h
      · rw [pd_kdn e1] at h
        exact h
theorem px_llo {post : Int32 → Prop} {p a : Nat} {L : List Nat} (hp : p < 12) (ha : a < 2) (hL : L.length ≤ 11) (hst : pd_ST f_stacked a_stack L) (hc : ∀ c, c ∈ L → c < 12)
    (h : post (pd_lo a_wishedSizes a_visible (a_gaps p) a (pd_kd a_parents L p) (a_sizes (2 * p + a)))) : wpX_lengthLeftOver post (f_stacked, f_treeSize, f_over, f_pressed, f_focus, f_waiting, f_noteCount, a_there, a_parents, a_kinds, a_colours, a_weights, a_gaps, a_layouts, a_values, a_effects, a_targets, a_visible, a_enabled, a_on, a_wishedPlaces, a_wishedSizes, a_shifts, a_stack, a_tree, a_seen, a_able, a_places, a_sizes, a_clipStarts, a_clipEnds, a_eventKinds, a_eventXs, a_eventYs, a_notes, a_pixels) (nI p) (nI a) := by
  obtain ⟨rfl, hs⟩ := hst
  obtain ⟨vI, cI⟩ := px_ix hp ha
  exact ⟨vI, nm_r (e' := a_sizes (2 * p + a)) (by rw [cI]) ⟨L.length + 1, px_llo17 hp ha (N := L.length) (by omega) L 0 0 (L.length + 1) _ hs (by omega) (by omega) (by omega) hc h⟩⟩
theorem px_sow4 {post : Int32 → Prop} {p N : Nat} (hN : N ≤ 12) :
    ∀ (R : List Nat) (i n : Nat) (s : Int32), pd_sg a_stack i R → i + R.length = N → R.length < n → (∀ c, c ∈ R → c < 12) →
    post (pd_sw a_weights a_visible (pd_kd a_parents R p) s) →
    wX_sumOfWeights_4 post (nI p) (nI N) f_treeSize f_over f_pressed f_focus f_waiting f_noteCount a_there a_parents a_kinds a_colours a_weights a_gaps a_layouts a_values a_effects a_targets a_visible a_enabled a_on a_wishedPlaces a_wishedSizes a_shifts a_stack a_tree a_seen a_able a_places a_sizes a_clipStarts a_clipEnds a_eventKinds a_eventXs a_eventYs a_notes a_pixels n s (nI i) := by
  intro R
  induction R with
  | nil =>
    intro i n r _ hi hn _ h
    obtain ⟨n, rfl⟩ : ∃ k, n = k + 1 := ⟨n - 1, by omega⟩
    rw [wX_sumOfWeights_4]
    have hi' : i = N := hi
    exact br_t (by rw [hi']; exact Int32.le_refl _) h
  | cons c R ih =>
    intro i n r hst hi hn hc h
    obtain ⟨n, rfl⟩ : ∃ k, n = k + 1 := ⟨n - 1, by omega⟩
    rw [List.length_cons] at hi hn
    have hc12 : c < 12 := hc c (List.mem_cons_self ..)
    have es : a_stack (nI i).toNatClampNeg = nI c := by rw [pd_cl (by omega)]; exact hst.1
    have hR : ∀ d, d ∈ R → d < 12 := fun d hd => hc d (List.mem_cons_of_mem _ hd)
    rw [wX_sumOfWeights_4]
    dsimp only
    rw [es]
    refine br_f (nI_ge (by omega) (by omega)) ⟨vp_in_nI (by omega) (by omega), px_stand hc12 (fun e1 e2 => ?_) (fun e0 => ?_)⟩
    · refine br_f (by decide) ⟨vp_in_nI (by omega) (by omega), vp_in_nI hc12 (by omega), nm_r (e' := r + a_weights c) (by rw [pd_cl (by omega)]) (nm_r (nI_1 i) ?_)⟩
      rw [pd_kdy e1] at h
      simp only [pd_sw, if_neg e2] at h
      exact ih (i + 1) n _ hst.2 (by omega) (by omega) hR h
    · refine br_t rfl (nm_r (nI_1 i) (ih (i + 1) n r hst.2 (by omega) (by omega) hR ?_))
      by_cases e1 : a_parents c = nI p
      · have e2 : a_visible c = 0 := Classical.byContradiction fun z => e0 ⟨e1, z⟩
        rw [pd_kdy e1] at h
        simp only [pd_sw, if_pos e2] at h
        exact h
      · rw [pd_kdn e1] at h
        exact h
theorem px_sos6 {post : Int32 → Prop} {p N : Nat} {lo sw : Int32} (hN : N ≤ 12) :
    ∀ (R : List Nat) (i n : Nat) (s : Int32), pd_sg a_stack i R → i + R.length = N → R.length < n → (∀ c, c ∈ R → c < 12) →
    post (pd_ss a_weights a_visible lo sw (pd_kd a_parents R p) s) →
    wX_sumOfShares_6 post (nI p) lo sw (nI N) f_treeSize f_over f_pressed f_focus f_waiting f_noteCount a_there a_parents a_kinds a_colours a_weights a_gaps a_layouts a_values a_effects a_targets a_visible a_enabled a_on a_wishedPlaces a_wishedSizes a_shifts a_stack a_tree a_seen a_able a_places a_sizes a_clipStarts a_clipEnds a_eventKinds a_eventXs a_eventYs a_notes a_pixels n s (nI i) := by
  intro R
  induction R with
  | nil =>
    intro i n r _ hi hn _ h
    obtain ⟨n, rfl⟩ : ∃ k, n = k + 1 := ⟨n - 1, by omega⟩
    rw [wX_sumOfShares_6]
    have hi' : i = N := hi
    exact br_t (by rw [hi']; exact Int32.le_refl _) h
  | cons c R ih =>
    intro i n r hst hi hn hc h
    obtain ⟨n, rfl⟩ : ∃ k, n = k + 1 := ⟨n - 1, by omega⟩
    rw [List.length_cons] at hi hn
    have hc12 : c < 12 := hc c (List.mem_cons_self ..)
    have es : a_stack (nI i).toNatClampNeg = nI c := by rw [pd_cl (by omega)]; exact hst.1
    have hR : ∀ d, d ∈ R → d < 12 := fun d hd => hc d (List.mem_cons_of_mem _ hd)
    rw [wX_sumOfShares_6]
    dsimp only
    rw [es]
    refine br_f (nI_ge (by omega) (by omega)) ⟨vp_in_nI (by omega) (by omega), px_stand hc12 (fun e1 e2 => ?_) (fun e0 => ?_)⟩
    · refine br_f (by decide) ⟨vp_in_nI (by omega) (by omega), px_share hc12 (nm_e (nm_r (nI_1 i) ?_))⟩
      rw [pd_kdy e1] at h
      simp only [pd_ss, if_neg e2] at h
      exact ih (i + 1) n _ hst.2 (by omega) (by omega) hR h
    · refine br_t rfl (nm_r (nI_1 i) (ih (i + 1) n r hst.2 (by omega) (by omega) hR ?_))
      by_cases e1 : a_parents c = nI p
      · have e2 : a_visible c = 0 := Classical.byContradiction fun z => e0 ⟨e1, z⟩
        rw [pd_kdy e1] at h
        simp only [pd_ss, if_pos e2] at h
        exact h
      · rw [pd_kdn e1] at h
        exact h
theorem px_aside {post : SX → Prop} {p c : Nat} {G : Nat → pd_V} (hp : p < 12) (hc : c < 12) (hPA : pd_PA G a_places a_sizes p)
    (hg : ∀ a, (G c).1 a = (G p).1 a ∧ (G c).2.1 a = a_wishedSizes (2 * c + a))
    (h : ∀ pl sz, pd_Mo a_places pl (pd_cP G) → pd_Mo a_sizes sz (pd_cS G) → pd_PA G pl sz c → post (f_stacked, f_treeSize, f_over, f_pressed, f_focus, f_waiting, f_noteCount, a_there, a_parents, a_kinds, a_colours, a_weights, a_gaps, a_layouts, a_values, a_effects, a_targets, a_visible, a_enabled, a_on, a_wishedPlaces, a_wishedSizes, a_shifts, a_stack, a_tree, a_seen, a_able, pl, sz, a_clipStarts, a_clipEnds, a_eventKinds, a_eventXs, a_eventYs, a_notes, a_pixels)) :
    wpX_setAside post (f_stacked, f_treeSize, f_over, f_pressed, f_focus, f_waiting, f_noteCount, a_there, a_parents, a_kinds, a_colours, a_weights, a_gaps, a_layouts, a_values, a_effects, a_targets, a_visible, a_enabled, a_on, a_wishedPlaces, a_wishedSizes, a_shifts, a_stack, a_tree, a_seen, a_able, a_places, a_sizes, a_clipStarts, a_clipEnds, a_eventKinds, a_eventXs, a_eventYs, a_notes, a_pixels) (nI c) (nI p) := by
  obtain ⟨v0, c0⟩ := px_ix hp (a := 0) (by omega)
  obtain ⟨v1, c1⟩ := px_ix hp (a := 1) (by omega)
  obtain ⟨w0, d0⟩ := px_ix hc (a := 0) (by omega)
  obtain ⟨w1, d1⟩ := px_ix hc (a := 1) (by omega)
  have p0 := hPA 0 (by omega)
  have p1 := hPA 1 (by omega)
  refine ⟨3, ?_⟩
  show wX_setAside_2 post (nI c) (nI p) f_stacked f_treeSize f_over f_pressed f_focus f_waiting f_noteCount 3 (nI 0) a_there a_parents a_kinds a_colours a_weights a_gaps a_layouts a_values a_effects a_targets a_visible a_enabled a_on a_wishedPlaces a_wishedSizes a_shifts a_stack a_tree a_seen a_able a_places a_sizes a_clipStarts a_clipEnds a_eventKinds a_eventXs a_eventYs a_notes a_pixels
  rw [wX_setAside_2]
  refine br_f (by decide) ⟨v0, w0, nm_r (e' := upd a_places (2 * c + 0) ((G c).1 0)) (by rw [c0, d0, p0.1, (hg 0).1]) ⟨w0, w0, nm_r (e' := upd a_sizes (2 * c + 0) ((G c).2.1 0)) (by rw [d0, (hg 0).2]) (nm_r (nI_1 0) ?_)⟩⟩
  rw [wX_setAside_2]
  refine br_f (by decide) ⟨v1, w1, nm_r (e' := upd (upd a_places (2 * c + 0) ((G c).1 0)) (2 * c + 1) ((G c).1 1)) (by rw [c1, d1, pd_un (by omega), p1.1, (hg 1).1]) ⟨w1, w1, nm_r (e' := upd (upd a_sizes (2 * c + 0) ((G c).2.1 0)) (2 * c + 1) ((G c).2.1 1)) (by rw [d1, (hg 1).2]) (nm_r (nI_1 1) ?_)⟩⟩
  rw [wX_setAside_2]
  refine br_t (by decide) (h _ _ (pd_Mo_t (pd_Mo_u (pd_cPa G (by omega)).symm) (pd_Mo_u (pd_cPa G (by omega)).symm)) (pd_Mo_t (pd_Mo_u (pd_cSa G (by omega)).symm) (pd_Mo_u (pd_cSa G (by omega)).symm)) (fun a ha => ?_))
  have : a = 0 ∨ a = 1 := by omega
  rcases this with rfl | rfl
  · rw [pd_un (by omega), pd_us, pd_un (by omega), pd_us]; exact ⟨rfl, rfl⟩
  · rw [pd_us, pd_us]; exact ⟨rfl, rfl⟩
theorem px_ln148 {post : SX → Prop} {J : _} {p c a i : Nat} {x3 x4 x5 x6 x9 : Int32} {G : Nat → pd_V} (hp : p < 12) (hc : c < 12) (ha : a < 2) (hPA : pd_PA G a_places a_sizes p)
    (h1 : (G c).1 a = x6) (h2 : (G c).2.1 a = x9) (h3 : (G c).1 (1 - a) = (G p).1 (1 - a) - a_shifts (2 * p + (1 - a))) (h4 : (G c).2.1 (1 - a) = (G p).2.1 (1 - a))
    (h : ∀ pl sz, pd_Mo a_places pl (pd_cP G) → pd_Mo a_sizes sz (pd_cS G) → pd_PA G pl sz c → J x5 (x6 + (x9 + a_gaps p)) (nI (i + 1)) f_stacked f_treeSize f_over f_pressed f_focus f_waiting f_noteCount a_there a_parents a_kinds a_colours a_weights a_gaps a_layouts a_values a_effects a_targets a_visible a_enabled a_on a_wishedPlaces a_wishedSizes a_shifts a_stack a_tree a_seen a_able pl sz a_clipStarts a_clipEnds a_eventKinds a_eventXs a_eventYs a_notes a_pixels) :
    wX_placeInLine_148 post J (nI p) (nI a) x3 x4 x5 x6 (nI i) (nI c) x9 f_stacked f_treeSize f_over f_pressed f_focus f_waiting f_noteCount a_there a_parents a_kinds a_colours a_weights a_gaps a_layouts a_values a_effects a_targets a_visible a_enabled a_on a_wishedPlaces a_wishedSizes a_shifts a_stack a_tree a_seen a_able a_places a_sizes a_clipStarts a_clipEnds a_eventKinds a_eventXs a_eventYs a_notes a_pixels := by
  obtain ⟨wa, da⟩ := px_ix hc ha
  have e1 : 1 - nI a = nI (1 - a) := pd_sub (a := 1) (by omega)
  obtain ⟨vb, cb⟩ := px_ix hp (a := 1 - a) (by omega)
  obtain ⟨wb, db⟩ := px_ix hc (a := 1 - a) (by omega)
  have pb := hPA (1 - a) (by omega)
  refine ⟨wa, nm_r (e' := upd a_places (2 * c + a) ((G c).1 a)) (by rw [da, h1]) ⟨wa, nm_r (e' := upd a_sizes (2 * c + a) ((G c).2.1 a)) (by rw [da, h2]) ?_⟩⟩
  rw [e1]
  refine ⟨vb, vb, wb, nm_r (e' := upd (upd a_places (2 * c + a) ((G c).1 a)) (2 * c + (1 - a)) ((G c).1 (1 - a))) (by rw [cb, db, pd_un (by omega), pb.1, h3]) ⟨vb, wb, nm_r (e' := upd (upd a_sizes (2 * c + a) ((G c).2.1 a)) (2 * c + (1 - a)) ((G c).2.1 (1 - a))) (by rw [cb, db, pd_un (by omega), pb.2, h4]) ?_⟩⟩
  refine ⟨vp_in_nI hp (by omega), nm_r (e' := x6 + (x9 + a_gaps p)) (by rw [pd_cl (by omega)]) (nm_r (nI_1 i) (h _ _ (pd_Mo_t (pd_Mo_u (pd_cPa G (by omega)).symm) (pd_Mo_u (pd_cPa G (by omega)).symm)) (pd_Mo_t (pd_Mo_u (pd_cSa G (by omega)).symm) (pd_Mo_u (pd_cSa G (by omega)).symm)) (fun b hb => ?_)))⟩
  by_cases e : b = a
  · subst e
    rw [pd_un (by omega), pd_us, pd_un (by omega), pd_us]; exact ⟨rfl, rfl⟩
  · have : b = 1 - a := by omega
    subst this
    rw [pd_us, pd_us]; exact ⟨rfl, rfl⟩
theorem px_ln52 {post : SX → Prop} {p a N : Nat} {lo sw : Int32} {G : Nat → pd_V} (hp : p < 12) (ha : a < 2) (hN : N ≤ 12) :
    ∀ (R : List Nat) (i n : Nat) (o s : Int32) (pl sz : Nat → Int32), pd_sg a_stack i R → i + R.length = N → R.length < n → (∀ c, c ∈ R → c < 12) → pd_PA G pl sz p →
    (∀ c, c ∈ pd_kd a_parents R p → a_visible c = 0 → ∀ b, (G c).1 b = (G p).1 b ∧ (G c).2.1 b = a_wishedSizes (2 * c + b)) →
    (∀ c, c ∈ pd_kd a_parents R p → ¬ a_visible c = 0 → (G c).1 (1 - a) = (G p).1 (1 - a) - a_shifts (2 * p + (1 - a)) ∧ (G c).2.1 (1 - a) = (G p).2.1 (1 - a)) →
    pd_PL a_wishedSizes a_weights a_visible a lo sw (a_gaps p) (fun c => ((G c).1 a, (G c).2.1 a)) (pd_kd a_parents R p) o s →
    (∀ pl' sz', pd_Mo pl pl' (pd_cP G) → pd_Mo sz sz' (pd_cS G) → (∀ c, c ∈ pd_kd a_parents R p → pd_PA G pl' sz' c) → post (nI N, f_treeSize, f_over, f_pressed, f_focus, f_waiting, f_noteCount, a_there, a_parents, a_kinds, a_colours, a_weights, a_gaps, a_layouts, a_values, a_effects, a_targets, a_visible, a_enabled, a_on, a_wishedPlaces, a_wishedSizes, a_shifts, a_stack, a_tree, a_seen, a_able, pl', sz', a_clipStarts, a_clipEnds, a_eventKinds, a_eventXs, a_eventYs, a_notes, a_pixels)) →
    wX_placeInLine_52 post (nI p) (nI a) lo sw n o s (nI i) (nI N) f_treeSize f_over f_pressed f_focus f_waiting f_noteCount a_there a_parents a_kinds a_colours a_weights a_gaps a_layouts a_values a_effects a_targets a_visible a_enabled a_on a_wishedPlaces a_wishedSizes a_shifts a_stack a_tree a_seen a_able pl sz a_clipStarts a_clipEnds a_eventKinds a_eventXs a_eventYs a_notes a_pixels := by
  intro R
  induction R with
  | nil =>
    intro i n o s pl sz _ hi hn _ _ _ _ _ h
    obtain ⟨n, rfl⟩ : ∃ m, n = m + 1 := ⟨n - 1, by omega⟩
    rw [wX_placeInLine_52]
    have hi' : i = N := hi
    exact br_t (by rw [hi']; exact Int32.le_refl _) (h pl sz (pd_Mo_r _ _) (pd_Mo_r _ _) (fun c hc => by cases hc))
  | cons c R ih =>
    intro i n o s pl sz hst hi hn hc hPA hH hV hPL h
    obtain ⟨n, rfl⟩ : ∃ m, n = m + 1 := ⟨n - 1, by omega⟩
    rw [List.length_cons] at hi hn
    have hc12 : c < 12 := hc c (List.mem_cons_self ..)
    have hcR : ∀ d, d ∈ R → d < 12 := fun d hd => hc d (List.mem_cons_of_mem _ hd)
    have cc : (nI c).toNatClampNeg = c := pd_cl (by omega)
    have vc : vp_in (nI c) 12 := vp_in_nI hc12 (by omega)
    obtain ⟨vI, cI⟩ := px_ix hc12 ha
    rw [wX_placeInLine_52]
    refine br_f (nI_ge (by omega) (by omega)) ⟨vp_in_nI (by omega) (by omega), nm_r (e' := nI c) (by rw [pd_cl (by omega)]; exact hst.1) ⟨vc, ?_⟩⟩
    rw [cc]
    by_cases hpa : a_parents c = nI p
    · rw [pd_kdy hpa] at hH hV hPL h
      have fin : ∀ pl1 sz1 o1 s1, pd_Mo pl pl1 (pd_cP G) → pd_Mo sz sz1 (pd_cS G) → pd_PA G pl1 sz1 c → pd_PL a_wishedSizes a_weights a_visible a lo sw (a_gaps p) (fun c => ((G c).1 a, (G c).2.1 a)) (pd_kd a_parents R p) o1 s1 →
          wX_placeInLine_52 post (nI p) (nI a) lo sw n o1 s1 (nI (i + 1)) (nI N) f_treeSize f_over f_pressed f_focus f_waiting f_noteCount a_there a_parents a_kinds a_colours a_weights a_gaps a_layouts a_values a_effects a_targets a_visible a_enabled a_on a_wishedPlaces a_wishedSizes a_shifts a_stack a_tree a_seen a_able pl1 sz1 a_clipStarts a_clipEnds a_eventKinds a_eventXs a_eventYs a_notes a_pixels := by
        intro pl1 sz1 o1 s1 m1 m2 hA hPL1
        refine ih (i + 1) n o1 s1 pl1 sz1 hst.2 (by omega) (by omega) hcR (pd_PAm m1 m2 hPA) (fun d hd => hH d (List.mem_cons_of_mem _ hd)) (fun d hd => hV d (List.mem_cons_of_mem _ hd)) hPL1 (fun pl2 sz2 m3 m4 hB => ?_)
        refine h pl2 sz2 (pd_Mo_t m1 m3) (pd_Mo_t m2 m4) (fun d hd => ?_)
        cases List.mem_cons.mp hd with
        | inl e => subst e; exact pd_PAm m3 m4 hA
        | inr e => exact hB d e
      refine br_t hpa ⟨vc, ?_⟩
      by_cases hv : a_visible c = 0
      · refine br_t hv (px_aside (G := G) hp hc12 hPA (hH c (List.mem_cons_self ..) hv) (fun pl1 sz1 m1 m2 hA => nm_r (nI_1 i) (fin pl1 sz1 o s m1 m2 hA (hPL.1 hv))))
      · obtain ⟨hV1, hV2⟩ := hV c (List.mem_cons_self ..) hv
        refine br_f hv ⟨vI, px_share hc12 (nm_r (e' := a_wishedSizes (2 * c + a) + pd_sh lo sw (a_weights c)) (by rw [cI]) ⟨vc, ?_⟩)⟩
        by_cases hw : a_weights c ≤ 0
        · obtain ⟨g1, g2⟩ := hPL.2.2 hv (fun z => absurd z.1 (Int32.not_lt.mpr hw))
          exact br_t hw (px_ln148 (G := G) hp hc12 ha hPA (congrArg Prod.fst g1) (congrArg Prod.snd g1) hV1 hV2 (fun pl1 sz1 m1 m2 hA => fin pl1 sz1 _ _ m1 m2 hA g2))
        · by_cases ho : o ≤ 0
          · obtain ⟨g1, g2⟩ := hPL.2.2 hv (fun z => absurd z.2 (Int32.not_lt.mpr ho))
            exact br_f hw (br_t ho (px_ln148 (G := G) hp hc12 ha hPA (congrArg Prod.fst g1) (congrArg Prod.snd g1) hV1 hV2 (fun pl1 sz1 m1 m2 hA => fin pl1 sz1 _ _ m1 m2 hA g2)))
          · obtain ⟨g1, g2⟩ := hPL.2.1 hv ⟨Int32.not_le.mp hw, Int32.not_le.mp ho⟩
            exact br_f hw (br_f ho (nm_e (nm_e (px_ln148 (G := G) hp hc12 ha hPA (congrArg Prod.fst g1) (congrArg Prod.snd g1) hV1 hV2 (fun pl1 sz1 m1 m2 hA => fin pl1 sz1 _ _ m1 m2 hA g2)))))
    · rw [pd_kdn hpa] at hH hV hPL h
      exact br_f hpa (nm_r (nI_1 i) (ih (i + 1) n o s pl sz hst.2 (by omega) (by omega) hcR hPA hH hV hPL h))
end PDH
