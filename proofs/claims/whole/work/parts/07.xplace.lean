section PDG
variable {f_stacked f_treeSize f_over f_pressed f_focus f_waiting f_noteCount : Int32} {a_there a_parents a_kinds a_colours a_weights a_gaps a_layouts a_values a_effects a_targets a_visible a_enabled a_on a_wishedPlaces a_wishedSizes a_shifts a_stack a_tree a_seen a_able a_places a_sizes a_clipStarts a_clipEnds a_eventKinds a_eventXs a_eventYs a_notes a_pixels : Nat → Int32}
/-! N: X: what inherit() works out -/
theorem px_ix {w a : Nat} (hw : w < 12) (ha : a < 2) : vp_in (2 * nI w + nI a) 24 ∧ (2 * nI w + nI a).toNatClampNeg = 2 * w + a := by
  rw [pd_22]
  exact ⟨vp_in_nI (by omega) (by omega), pd_cl (by omega)⟩
theorem px_inhA {post : SX → Prop} {w a n : Nat} {x2 s e : Int32} (hw : w < 12) (ha : a < 2)
    (hs : (x2 = -1 ∧ s = a_places (2 * w + a) ∧ e = a_places (2 * w + a) + a_sizes (2 * w + a)) ∨
      ∃ p, p < 12 ∧ x2 = nI p ∧ s = (if a_places (2 * w + a) < a_clipStarts (2 * p + a) then a_clipStarts (2 * p + a) else a_places (2 * w + a)) ∧
        e = (if a_clipEnds (2 * p + a) < a_places (2 * w + a) + a_sizes (2 * w + a) then a_clipEnds (2 * p + a) else a_places (2 * w + a) + a_sizes (2 * w + a)))
    (h : wX_inherit_77 post (nI w) x2 f_stacked f_treeSize f_over f_pressed f_focus f_waiting f_noteCount n (nI (a + 1)) a_there a_parents a_kinds a_colours a_weights a_gaps a_layouts a_values a_effects a_targets a_visible a_enabled a_on a_wishedPlaces a_wishedSizes a_shifts a_stack a_tree a_seen a_able a_places a_sizes (upd a_clipStarts (2 * w + a) s) (upd a_clipEnds (2 * w + a) e) a_eventKinds a_eventXs a_eventYs a_notes a_pixels) :
    wX_inherit_77 post (nI w) x2 f_stacked f_treeSize f_over f_pressed f_focus f_waiting f_noteCount (n + 1) (nI a) a_there a_parents a_kinds a_colours a_weights a_gaps a_layouts a_values a_effects a_targets a_visible a_enabled a_on a_wishedPlaces a_wishedSizes a_shifts a_stack a_tree a_seen a_able a_places a_sizes a_clipStarts a_clipEnds a_eventKinds a_eventXs a_eventYs a_notes a_pixels := by
  obtain ⟨vI, cI⟩ := px_ix hw ha
  have fin : ∀ x4 x5, x4 = s → x5 = e → wX_inherit_173 post (wX_inherit_77 post (nI w) x2 f_stacked f_treeSize f_over f_pressed f_focus f_waiting f_noteCount n) (nI w) x2 (nI a) x4 x5 f_stacked f_treeSize f_over f_pressed f_focus f_waiting f_noteCount a_there a_parents a_kinds a_colours a_weights a_gaps a_layouts a_values a_effects a_targets a_visible a_enabled a_on a_wishedPlaces a_wishedSizes a_shifts a_stack a_tree a_seen a_able a_places a_sizes a_clipStarts a_clipEnds a_eventKinds a_eventXs a_eventYs a_notes a_pixels := by
    intro x4 x5 e4 e5
    subst e4 e5
    exact ⟨vI, nm_r (e' := upd a_clipStarts (2 * w + a) x4) (by rw [cI]) ⟨vI, nm_r (e' := upd a_clipEnds (2 * w + a) x5) (by rw [cI]) (nm_r (nI_1 a) h)⟩⟩
  rw [wX_inherit_77]
  refine br_f (nI_ge (b := 2) ha (by decide)) ⟨vI, nm_r (e' := a_places (2 * w + a)) (by rw [cI]) ⟨vI, nm_r (e' := a_places (2 * w + a) + a_sizes (2 * w + a)) (by rw [cI]) ?_⟩⟩
  rcases hs with ⟨h1, h2, h3⟩ | ⟨p, hp, h1, h2, h3⟩
  · exact br_t h1 (br_t h1 (fin _ _ h2.symm h3.symm))
  · subst h1
    obtain ⟨vP, cP⟩ := px_ix hp ha
    have n1 : ¬ nI p = -1 := pd_ne1 (by omega)
    have e141 : ∀ x4, x4 = s → wX_inherit_141 post (wX_inherit_77 post (nI w) (nI p) f_stacked f_treeSize f_over f_pressed f_focus f_waiting f_noteCount n) (nI w) (nI p) (nI a) x4 (a_places (2 * w + a) + a_sizes (2 * w + a)) f_stacked f_treeSize f_over f_pressed f_focus f_waiting f_noteCount a_there a_parents a_kinds a_colours a_weights a_gaps a_layouts a_values a_effects a_targets a_visible a_enabled a_on a_wishedPlaces a_wishedSizes a_shifts a_stack a_tree a_seen a_able a_places a_sizes a_clipStarts a_clipEnds a_eventKinds a_eventXs a_eventYs a_notes a_pixels := by
      intro x4 e4
      refine br_f n1 ⟨vP, ?_⟩
      rw [cP]
      by_cases c : a_places (2 * w + a) + a_sizes (2 * w + a) ≤ a_clipEnds (2 * p + a)
      · exact br_t c (fin _ _ e4 (by rw [h3, if_neg (Int32.not_lt.mpr c)]))
      · exact br_f c ⟨vP, nm_r (e' := a_clipEnds (2 * p + a)) rfl (fin _ _ e4 (by rw [h3, if_pos (Int32.not_le.mp c)]))⟩
    refine br_f n1 ⟨vP, ?_⟩
    rw [cP]
    by_cases c : a_clipStarts (2 * p + a) ≤ a_places (2 * w + a)
    · exact br_t c (e141 _ (by rw [h2, if_neg (Int32.not_lt.mpr c)]))
    · exact br_f c ⟨vP, nm_r (e' := a_clipStarts (2 * p + a)) rfl (e141 _ (by rw [h2, if_pos (Int32.not_le.mp c)]))⟩
/-- what stands for the parent: none, or one that is worked out -/
def pd_up (G : Nat → pd_V) (pa wp ws sh vi en la ga we : Nat → Int32) (L : List Nat) (se ab cs ce : Nat → Int32) (w : Nat) : Prop :=
  (w = 0 ∧ pa 0 = -1 ∧ G 0 = pd_R wp ws vi en) ∨ ∃ p, p < 12 ∧ pa w = nI p ∧ pd_CA G se ab cs ce p ∧ G w = pd_F pa wp ws sh vi en la ga we L (G p) p w
theorem px_inh {post : SX → Prop} {w : Nat} {G : Nat → pd_V} {L : List Nat} (hw : w < 12) (hPA : pd_PA G a_places a_sizes w)
    (hp : pd_up G a_parents a_wishedPlaces a_wishedSizes a_shifts a_visible a_enabled a_layouts a_gaps a_weights L a_seen a_able a_clipStarts a_clipEnds w)
    (h : ∀ se ab cs ce, pd_Mo a_seen se (fun j => (G j).2.2.1) → pd_Mo a_able ab (fun j => (G j).2.2.2.1) → pd_Mo a_clipStarts cs (pd_cC G) → pd_Mo a_clipEnds ce (pd_cE G) → pd_CA G se ab cs ce w →
      post (f_stacked, f_treeSize, f_over, f_pressed, f_focus, f_waiting, f_noteCount, a_there, a_parents, a_kinds, a_colours, a_weights, a_gaps, a_layouts, a_values, a_effects, a_targets, a_visible, a_enabled, a_on, a_wishedPlaces, a_wishedSizes, a_shifts, a_stack, a_tree, se, ab, a_places, a_sizes, cs, ce, a_eventKinds, a_eventXs, a_eventYs, a_notes, a_pixels)) : wpX_inherit post (f_stacked, f_treeSize, f_over, f_pressed, f_focus, f_waiting, f_noteCount, a_there, a_parents, a_kinds, a_colours, a_weights, a_gaps, a_layouts, a_values, a_effects, a_targets, a_visible, a_enabled, a_on, a_wishedPlaces, a_wishedSizes, a_shifts, a_stack, a_tree, a_seen, a_able, a_places, a_sizes, a_clipStarts, a_clipEnds, a_eventKinds, a_eventXs, a_eventYs, a_notes, a_pixels) (nI w) := by
  have vw : vp_in (nI w) 12 := vp_in_nI hw (by omega)
  have cw : (nI w).toNatClampNeg = w := pd_cl (by omega)
  have p0 := hPA 0 (by omega)
  have p1 := hPA 1 (by omega)
  have fin : ∃ n, wX_inherit_77 post (nI w) (a_parents w) f_stacked f_treeSize f_over f_pressed f_focus f_waiting f_noteCount n 0 a_there a_parents a_kinds a_colours a_weights a_gaps a_layouts a_values a_effects a_targets a_visible a_enabled a_on a_wishedPlaces a_wishedSizes a_shifts a_stack a_tree (upd a_seen w (G w).2.2.1) (upd a_able w (G w).2.2.2.1) a_places a_sizes a_clipStarts a_clipEnds a_eventKinds a_eventXs a_eventYs a_notes a_pixels := by
    refine ⟨3, ?_⟩
    have last : wX_inherit_77 post (nI w) (a_parents w) f_stacked f_treeSize f_over f_pressed f_focus f_waiting f_noteCount 1 (nI 2) a_there a_parents a_kinds a_colours a_weights a_gaps a_layouts a_values a_effects a_targets a_visible a_enabled a_on a_wishedPlaces a_wishedSizes a_shifts a_stack a_tree (upd a_seen w (G w).2.2.1) (upd a_able w (G w).2.2.2.1) a_places a_sizes (upd (upd a_clipStarts (2 * w + 0) ((G w).2.2.2.2.1 0)) (2 * w + 1) ((G w).2.2.2.2.1 1)) (upd (upd a_clipEnds (2 * w + 0) ((G w).2.2.2.2.2 0)) (2 * w + 1) ((G w).2.2.2.2.2 1)) a_eventKinds a_eventXs a_eventYs a_notes a_pixels := by
      rw [wX_inherit_77]
      refine br_t (Int32.le_refl _) (h _ _ _ _ (pd_Mo_u rfl) (pd_Mo_u rfl) (pd_Mo_t (pd_Mo_u (pd_cCa G (by omega)).symm) (pd_Mo_u (pd_cCa G (by omega)).symm)) (pd_Mo_t (pd_Mo_u (pd_cEa G (by omega)).symm) (pd_Mo_u (pd_cEa G (by omega)).symm)) ⟨pd_us, pd_us, fun a ha => ?_⟩)
      have : a = 0 ∨ a = 1 := by omega
      rcases this with rfl | rfl
      · rw [pd_un (by omega), pd_us, pd_un (by omega), pd_us]; exact ⟨rfl, rfl⟩
      · rw [pd_us, pd_us]; exact ⟨rfl, rfl⟩
    refine px_inhA (a := 0) hw (by omega) ?_ (px_inhA (a := 1) hw (by omega) ?_ last)
    · rcases hp with ⟨e0, e1, e2⟩ | ⟨p, hp, ep, hC, eG⟩
      · subst e0
        rw [e2] at p0 ⊢
        exact Or.inl ⟨e1, p0.1.symm, by rw [p0.1, p0.2]; rfl⟩
      · refine Or.inr ⟨p, hp, ep, ?_, ?_⟩
        · rw [(hC.2.2 0 (by omega)).1, p0.1]; conv => lhs; rw [eG]
          rw [eG]; rfl
        · rw [(hC.2.2 0 (by omega)).2, p0.1, p0.2]; conv => lhs; rw [eG]
          rw [eG]; rfl
    · rcases hp with ⟨e0, e1, e2⟩ | ⟨p, hp, ep, hC, eG⟩
      · subst e0
        rw [e2] at p1 ⊢
        exact Or.inl ⟨e1, p1.1.symm, by rw [p1.1, p1.2]; rfl⟩
      · refine Or.inr ⟨p, hp, ep, ?_, ?_⟩
        · rw [pd_un (by omega), (hC.2.2 1 (by omega)).1, p1.1]; conv => lhs; rw [eG]
          rw [eG]; rfl
        · rw [pd_un (by omega), (hC.2.2 1 (by omega)).2, p1.1, p1.2]; conv => lhs; rw [eG]
          rw [eG]; rfl
  have f40 : ∀ z0, z0 = (G w).2.2.1 → wX_inherit_40 post (nI w) (a_parents w) z0 (nI w) f_stacked f_treeSize f_over f_pressed f_focus f_waiting f_noteCount a_there a_parents a_kinds a_colours a_weights a_gaps a_layouts a_values a_effects a_targets a_visible a_enabled a_on a_wishedPlaces a_wishedSizes a_shifts a_stack a_tree a_seen a_able a_places a_sizes a_clipStarts a_clipEnds a_eventKinds a_eventXs a_eventYs a_notes a_pixels := by
    intro z0 ez
    have eb : vp_nar .boolean z0 = (G w).2.2.1 := by
      rw [ez]
      rcases hp with ⟨e0, e1, e2⟩ | ⟨p, hp, ep, hC, eG⟩
      · subst e0
        rw [e2]; simp only [pd_R]
        by_cases c : ¬ a_visible 0 = 0
        · rw [if_pos c]; exact pd_b1
        · rw [if_neg c]; exact pd_b0
      · rw [eG]; simp only [pd_F]
        by_cases c : ¬ a_visible w = 0 ∧ ¬ (G p).2.2.1 = 0
        · rw [if_pos c]; exact pd_b1
        · rw [if_neg c]; exact pd_b0
    refine ⟨vw, nm_r (e' := upd a_seen w (G w).2.2.1) (by rw [cw, eb]) ⟨vw, ?_⟩⟩
    rw [cw, pd_b0, pd_b1]
    rcases hp with ⟨e0, e1, e2⟩ | ⟨p, hp, ep, hC, eG⟩
    · subst e0
      have eA : (G 0).2.2.2.1 = if ¬ a_enabled 0 = 0 then 1 else 0 := by rw [e2]; rfl
      by_cases c : a_enabled 0 = 0
      · rw [if_neg (fun z => z c)] at eA
        rw [eA] at fin
        exact br_t c ⟨vw, nm_r rfl fin⟩
      · rw [if_pos c] at eA
        rw [eA] at fin
        exact br_f c (br_t e1 ⟨vw, nm_r rfl fin⟩)
    · have eA : (G w).2.2.2.1 = if ¬ a_enabled w = 0 ∧ ¬ (G p).2.2.2.1 = 0 then 1 else 0 := by rw [eG]; rfl
      by_cases c : a_enabled w = 0
      · rw [if_neg (fun z => z.1 c)] at eA
        rw [eA] at fin
        exact br_t c ⟨vw, nm_r rfl fin⟩
      · have n1 : ¬ a_parents w = -1 := by rw [ep]; exact pd_ne1 (by omega)
        have vp : vp_in (a_parents w) 12 := by rw [ep]; exact vp_in_nI hp (by omega)
        have cp : a_able (a_parents w).toNatClampNeg = (G p).2.2.2.1 := by rw [ep, pd_cl (by omega)]; exact hC.2.1
        refine br_f c (br_f n1 ⟨vp, ?_⟩)
        by_cases d : (G p).2.2.2.1 = 0
        · rw [if_neg (fun z => z.2 d)] at eA
          rw [eA] at fin
          exact br_t (cp.trans d) ⟨vw, nm_r rfl fin⟩
        · rw [if_pos ⟨c, d⟩] at eA
          rw [eA] at fin
          exact br_f (fun z => d (cp.symm.trans z)) ⟨vw, nm_r rfl fin⟩
  refine ⟨vw, nm_r (e' := a_parents w) (by rw [cw]) ⟨vw, ?_⟩⟩
  rw [cw]
  rcases hp with ⟨e0, e1, e2⟩ | ⟨p, hp, ep, hC, eG⟩
  · subst e0
    have eS : (G 0).2.2.1 = if ¬ a_visible 0 = 0 then 1 else 0 := by rw [e2]; rfl
    by_cases c : a_visible 0 = 0
    · exact br_t c (f40 0 (by rw [eS, if_neg (fun z => z c)]))
    · exact br_f c (br_t e1 (f40 1 (by rw [eS, if_pos c])))
  · have eS : (G w).2.2.1 = if ¬ a_visible w = 0 ∧ ¬ (G p).2.2.1 = 0 then 1 else 0 := by rw [eG]; rfl
    by_cases c : a_visible w = 0
    · exact br_t c (f40 0 (by rw [eS, if_neg (fun z => z.1 c)]))
    · have n1 : ¬ a_parents w = -1 := by rw [ep]; exact pd_ne1 (by omega)
      have vp : vp_in (a_parents w) 12 := by rw [ep]; exact vp_in_nI hp (by omega)
      have cp : a_seen (a_parents w).toNatClampNeg = (G p).2.2.1 := by rw [ep, pd_cl (by omega)]; exact hC.1
      refine br_f c (br_f n1 ⟨vp, ?_⟩)
      by_cases d : (G p).2.2.1 = 0
      · exact br_t (cp.trans d) (f40 0 (by rw [eS, if_neg (fun z => z.2 d)]))
      · exact br_f (fun z => d (cp.symm.trans z)) (f40 1 (by rw [eS, if_pos ⟨c, d⟩]))
/-! O: X: places by hand -/
theorem px_pb30 {post : SX → Prop} {J : _} {p c i : Nat} {G : Nat → pd_V} (hp : p < 12) (hc : c < 12) (hPA : pd_PA G a_places a_sizes p)
    (hg : ∀ a, (G c).1 a = (G p).1 a + a_wishedPlaces (2 * c + a) - a_shifts (2 * p + a) ∧ (G c).2.1 a = a_wishedSizes (2 * c + a))
    (h : ∀ pl sz, pd_Mo a_places pl (pd_cP G) → pd_Mo a_sizes sz (pd_cS G) → pd_PA G pl sz c → J (nI (i + 1)) a_there a_parents a_kinds a_colours a_weights a_gaps a_layouts a_values a_effects a_targets a_visible a_enabled a_on a_wishedPlaces a_wishedSizes a_shifts a_stack a_tree a_seen a_able pl sz a_clipStarts a_clipEnds a_eventKinds a_eventXs a_eventYs a_notes a_pixels) :
    ∃ n, wX_placeByHand_30 post J (nI p) (nI i) (nI c) f_stacked f_treeSize f_over f_pressed f_focus f_waiting f_noteCount n 0 a_there a_parents a_kinds a_colours a_weights a_gaps a_layouts a_values a_effects a_targets a_visible a_enabled a_on a_wishedPlaces a_wishedSizes a_shifts a_stack a_tree a_seen a_able a_places a_sizes a_clipStarts a_clipEnds a_eventKinds a_eventXs a_eventYs a_notes a_pixels := by
  obtain ⟨v0, c0⟩ := px_ix hp (a := 0) (by omega)
  obtain ⟨v1, c1⟩ := px_ix hp (a := 1) (by omega)
  obtain ⟨w0, d0⟩ := px_ix hc (a := 0) (by omega)
  obtain ⟨w1, d1⟩ := px_ix hc (a := 1) (by omega)
  have p0 := hPA 0 (by omega)
  have p1 := hPA 1 (by omega)
  refine ⟨3, ?_⟩
  show wX_placeByHand_30 post J (nI p) (nI i) (nI c) f_stacked f_treeSize f_over f_pressed f_focus f_waiting f_noteCount 3 (nI 0) a_there a_parents a_kinds a_colours a_weights a_gaps a_layouts a_values a_effects a_targets a_visible a_enabled a_on a_wishedPlaces a_wishedSizes a_shifts a_stack a_tree a_seen a_able a_places a_sizes a_clipStarts a_clipEnds a_eventKinds a_eventXs a_eventYs a_notes a_pixels
  rw [wX_placeByHand_30]
  refine br_f (by decide) ⟨v0, w0, v0, w0, nm_r (e' := upd a_places (2 * c + 0) ((G c).1 0)) (by rw [c0, d0, p0.1, (hg 0).1]) ⟨w0, w0, nm_r (e' := upd a_sizes (2 * c + 0) ((G c).2.1 0)) (by rw [d0, (hg 0).2]) (nm_r (nI_1 0) ?_)⟩⟩
  rw [wX_placeByHand_30]
  refine br_f (by decide) ⟨v1, w1, v1, w1, nm_r (e' := upd (upd a_places (2 * c + 0) ((G c).1 0)) (2 * c + 1) ((G c).1 1)) (by rw [c1, d1, pd_un (by omega), p1.1, (hg 1).1]) ⟨w1, w1, nm_r (e' := upd (upd a_sizes (2 * c + 0) ((G c).2.1 0)) (2 * c + 1) ((G c).2.1 1)) (by rw [d1, (hg 1).2]) (nm_r (nI_1 1) ?_)⟩⟩
  rw [wX_placeByHand_30]
  refine br_t (by decide) (nm_r (nI_1 i) (h _ _ (pd_Mo_t (pd_Mo_u (pd_cPa G (by omega)).symm) (pd_Mo_u (pd_cPa G (by omega)).symm)) (pd_Mo_t (pd_Mo_u (pd_cSa G (by omega)).symm) (pd_Mo_u (pd_cSa G (by omega)).symm)) (fun a ha => ?_)))
  have : a = 0 ∨ a = 1 := by omega
  rcases this with rfl | rfl
  · rw [pd_un (by omega), pd_us, pd_un (by omega), pd_us]; exact ⟨rfl, rfl⟩
  · rw [pd_us, pd_us]; exact ⟨rfl, rfl⟩
theorem px_pb2 {post : SX → Prop} {p N : Nat} {G : Nat → pd_V} (hp : p < 12) (hN : N ≤ 12) :
    ∀ (R : List Nat) (i n : Nat) (pl sz : Nat → Int32), pd_sg a_stack i R → i + R.length = N → R.length < n → (∀ c, c ∈ R → c < 12) → pd_PA G pl sz p →
    (∀ c, c ∈ pd_kd a_parents R p → ∀ a, (G c).1 a = (G p).1 a + a_wishedPlaces (2 * c + a) - a_shifts (2 * p + a) ∧ (G c).2.1 a = a_wishedSizes (2 * c + a)) →
    (∀ pl' sz', pd_Mo pl pl' (pd_cP G) → pd_Mo sz sz' (pd_cS G) → (∀ c, c ∈ pd_kd a_parents R p → pd_PA G pl' sz' c) → post (nI N, f_treeSize, f_over, f_pressed, f_focus, f_waiting, f_noteCount, a_there, a_parents, a_kinds, a_colours, a_weights, a_gaps, a_layouts, a_values, a_effects, a_targets, a_visible, a_enabled, a_on, a_wishedPlaces, a_wishedSizes, a_shifts, a_stack, a_tree, a_seen, a_able, pl', sz', a_clipStarts, a_clipEnds, a_eventKinds, a_eventXs, a_eventYs, a_notes, a_pixels)) →
    wX_placeByHand_2 post (nI p) (nI N) f_treeSize f_over f_pressed f_focus f_waiting f_noteCount n (nI i) a_there a_parents a_kinds a_colours a_weights a_gaps a_layouts a_values a_effects a_targets a_visible a_enabled a_on a_wishedPlaces a_wishedSizes a_shifts a_stack a_tree a_seen a_able pl sz a_clipStarts a_clipEnds a_eventKinds a_eventXs a_eventYs a_notes a_pixels := by
  intro R
  induction R with
  | nil =>
    intro i n pl sz _ hi hn _ _ _ h
    obtain ⟨n, rfl⟩ : ∃ m, n = m + 1 := ⟨n - 1, by omega⟩
    rw [wX_placeByHand_2]
    have hi' : i = N := hi
    exact br_t (by rw [hi']; exact Int32.le_refl _) (h pl sz (pd_Mo_r _ _) (pd_Mo_r _ _) (fun c hc => by cases hc))
  | cons c R ih =>
    intro i n pl sz hst hi hn hc hPA hg h
    obtain ⟨n, rfl⟩ : ∃ m, n = m + 1 := ⟨n - 1, by omega⟩
    rw [List.length_cons] at hi hn
    have hc12 : c < 12 := hc c (List.mem_cons_self ..)
    rw [wX_placeByHand_2]
    refine br_f (nI_ge (by omega) (by omega)) ⟨vp_in_nI (by omega) (by omega), nm_r (e' := nI c) (by rw [pd_cl (by omega)]; exact hst.1) ⟨vp_in_nI hc12 (by omega), ?_⟩⟩
    rw [pd_cl (n := c) (by omega)]
    by_cases hpc : a_parents c = nI p
    · have ek : pd_kd a_parents (c :: R) p = c :: pd_kd a_parents R p := by unfold pd_kd; simp [hpc]
      rw [ek] at hg h
      refine br_t hpc (px_pb30 (G := G) hp hc12 hPA (hg c (List.mem_cons_self ..)) (fun pl1 sz1 m1 m2 hA => ?_))
      refine ih (i + 1) n pl1 sz1 hst.2 (by omega) (by omega) (fun d hd => hc d (List.mem_cons_of_mem _ hd)) (pd_PAm m1 m2 hPA) (fun d hd => hg d (List.mem_cons_of_mem _ hd)) (fun pl2 sz2 m3 m4 hB => ?_)
      refine h pl2 sz2 (pd_Mo_t m1 m3) (pd_Mo_t m2 m4) (fun d hd => ?_)
      cases List.mem_cons.mp hd with
      | inl e => subst e; exact pd_PAm m3 m4 hA
      | inr e => exact hB d e
    · have ek : pd_kd a_parents (c :: R) p = pd_kd a_parents R p := by unfold pd_kd; simp [hpc]
      rw [ek] at hg h
      exact br_f hpc (nm_r (nI_1 i) (ih (i + 1) n pl sz hst.2 (by omega) (by omega) (fun d hd => hc d (List.mem_cons_of_mem _ hd)) hPA hg h))
end PDG
