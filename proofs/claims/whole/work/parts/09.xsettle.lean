section PDI
variable {f_stacked f_treeSize f_over f_pressed f_focus f_waiting f_noteCount : Int32} {a_there a_parents a_kinds a_colours a_weights a_gaps a_layouts a_values a_effects a_targets a_visible a_enabled a_on a_wishedPlaces a_wishedSizes a_shifts a_stack a_tree a_seen a_able a_places a_sizes a_clipStarts a_clipEnds a_eventKinds a_eventXs a_eventYs a_notes a_pixels : Nat → Int32}
/-! Q: X: settle() -/
theorem px_line {post : SX → Prop} {p a : Nat} {L : List Nat} {rk : Nat → Nat} {G : Nat → pd_V} (H : pd_BI a_there a_parents L rk) (hst : pd_ST f_stacked a_stack L)
    (hG : pd_LE a_parents a_wishedPlaces a_wishedSizes a_shifts a_visible a_enabled a_layouts a_gaps a_weights L G) (hp : p = 0 ∨ p ∈ L) (ha : a < 2) (hl : a_layouts p = nI (a + 1)) (hPA : pd_PA G a_places a_sizes p)
    (h : ∀ pl sz, pd_Mo a_places pl (pd_cP G) → pd_Mo a_sizes sz (pd_cS G) → (∀ c, c ∈ pd_kd a_parents L p → pd_PA G pl sz c) → post (f_stacked, f_treeSize, f_over, f_pressed, f_focus, f_waiting, f_noteCount, a_there, a_parents, a_kinds, a_colours, a_weights, a_gaps, a_layouts, a_values, a_effects, a_targets, a_visible, a_enabled, a_on, a_wishedPlaces, a_wishedSizes, a_shifts, a_stack, a_tree, a_seen, a_able, pl, sz, a_clipStarts, a_clipEnds, a_eventKinds, a_eventXs, a_eventYs, a_notes, a_pixels)) :
    wpX_placeInLine post (f_stacked, f_treeSize, f_over, f_pressed, f_focus, f_waiting, f_noteCount, a_there, a_parents, a_kinds, a_colours, a_weights, a_gaps, a_layouts, a_values, a_effects, a_targets, a_visible, a_enabled, a_on, a_wishedPlaces, a_wishedSizes, a_shifts, a_stack, a_tree, a_seen, a_able, a_places, a_sizes, a_clipStarts, a_clipEnds, a_eventKinds, a_eventXs, a_eventYs, a_notes, a_pixels) (nI p) (nI a) := by
  have hp12 := pd_12lt H.2.1 hp
  have hL := pd_len11 H.1 H.2.1
  have hc : ∀ c, c ∈ L → c < 12 := fun c hc => (H.2.1 c hc).2
  obtain ⟨vI, cI⟩ := px_ix hp12 ha
  have pa := hPA a ha
  have hl0 : ¬ a_layouts p = 0 := by rw [hl]; exact nI_ne0 (by omega) (by omega)
  have hla : ¬ a_layouts p = nI ((1 - a) + 1) := by rw [hl]; exact fun z => by have := pd_im z (by omega) (by omega); omega
  have PL := pd_LEp H hG hp hl0 hl
  obtain ⟨rfl, hs⟩ := hst
  refine px_llo hp12 ha hL ⟨rfl, hs⟩ hc ⟨L.length + 1, px_sow4 (N := L.length) (by omega) L 0 (L.length + 1) 0 hs (by omega) (by omega) hc ⟨L.length + 1, px_sos6 (N := L.length) (by omega) L 0 (L.length + 1) 0 hs (by omega) (by omega) hc ?_⟩⟩
  rw [pa.2]
  refine nm_e ⟨vI, vI, nm_r (e' := (G p).1 a - a_shifts (2 * p + a)) (by rw [cI, pa.1]) ⟨L.length + 1, ?_⟩⟩
  exact px_ln52 (G := G) hp12 ha (N := L.length) (by omega) L 0 (L.length + 1) _ _ a_places a_sizes hs (by omega) (by omega) hc hPA
    (fun c hc hv b => pd_Ghid hG hp hc hl0 hv b) (fun c hc hv => pd_Gacr hG hp hc hl0 hv hla) PL h
theorem pd_CAm {G : Nat → pd_V} {se ab cs ce se' ab' cs' ce' : Nat → Int32} (h1 : pd_Mo se se' (fun j => (G j).2.2.1)) (h2 : pd_Mo ab ab' (fun j => (G j).2.2.2.1)) (h3 : pd_Mo cs cs' (pd_cC G)) (h4 : pd_Mo ce ce' (pd_cE G)) {w : Nat} (h : pd_CA G se ab cs ce w) : pd_CA G se' ab' cs' ce' w :=
  ⟨h1 w h.1, h2 w h.2.1, fun a ha => ⟨(h3 _ ((h.2.2 a ha).1.trans (pd_cCa G ha).symm)).trans (pd_cCa G ha), (h4 _ ((h.2.2 a ha).2.trans (pd_cEa G ha).symm)).trans (pd_cEa G ha)⟩⟩
theorem px_set43 {post : SX → Prop} {L : List Nat} {rk : Nat → Nat} {G : Nat → pd_V} {N : Nat} (H : pd_BI a_there a_parents L rk) (hst : pd_ST f_stacked a_stack L) (hN : N ≤ 12)
    (hG : pd_LE a_parents a_wishedPlaces a_wishedSizes a_shifts a_visible a_enabled a_layouts a_gaps a_weights L G) (hla : ∀ c, c < 12 → ∃ k, k ≤ 2 ∧ a_layouts c = nI k) :
    ∀ (R S : List Nat) (i n : Nat) (se ab pl sz cs ce : Nat → Int32), pd_sg a_tree i R → i + R.length = N → R.length < n → pd_pb a_parents S R → (∀ w, w ∈ R → w = 0 ∨ w ∈ L) →
    (∀ w, w ∈ S → pd_CA G se ab cs ce w) → (∀ w, w ∈ S → w < 12) → pd_PA G pl sz 0 → (∀ c p, c ∈ L → p ∈ S → a_parents c = nI p → pd_PA G pl sz c) →
    (∀ se' ab' pl' sz' cs' ce', (∀ w, w ∈ S ∨ w ∈ R → pd_CA G se' ab' cs' ce' w) → pd_PA G pl' sz' 0 → (∀ c p, c ∈ L → p ∈ S ∨ p ∈ R → a_parents c = nI p → pd_PA G pl' sz' c) →
      post (f_stacked, nI N, f_over, f_pressed, f_focus, f_waiting, f_noteCount, a_there, a_parents, a_kinds, a_colours, a_weights, a_gaps, a_layouts, a_values, a_effects, a_targets, a_visible, a_enabled, a_on, a_wishedPlaces, a_wishedSizes, a_shifts, a_stack, a_tree, se', ab', pl', sz', cs', ce', a_eventKinds, a_eventXs, a_eventYs, a_notes, a_pixels)) →
    wX_settle_43 post n (nI i) f_stacked (nI N) f_over f_pressed f_focus f_waiting f_noteCount a_there a_parents a_kinds a_colours a_weights a_gaps a_layouts a_values a_effects a_targets a_visible a_enabled a_on a_wishedPlaces a_wishedSizes a_shifts a_stack a_tree se ab pl sz cs ce a_eventKinds a_eventXs a_eventYs a_notes a_pixels := by
  intro R
  induction R with
  | nil =>
    intro S i n se ab pl sz cs ce _ hi hn _ _ hC _ h0 hP h
    obtain ⟨n, rfl⟩ : ∃ m, n = m + 1 := ⟨n - 1, by omega⟩
    rw [wX_settle_43]
    have hi' : i = N := hi
    exact br_t (by rw [hi']; exact Int32.le_refl _) (h se ab pl sz cs ce (fun w hw => hC w (hw.elim id (fun z => by cases z))) h0 (fun c p hc hp => hP c p hc (hp.elim id (fun z => by cases z))))
  | cons w R ih =>
    intro S i n se ab pl sz cs ce htr hi hn hpb hR hC hS h0 hP h
    obtain ⟨n, rfl⟩ : ∃ m, n = m + 1 := ⟨n - 1, by omega⟩
    rw [List.length_cons] at hi hn
    have hw : w = 0 ∨ w ∈ L := hR w (List.mem_cons_self ..)
    have hw12 := pd_12lt H.2.1 hw
    have hPw : pd_PA G pl sz w := by
      cases hw with
      | inl e => subst e; exact h0
      | inr e =>
        rcases hpb.1 with e0 | ⟨p, hp, ep⟩
        · subst e0; exact h0
        · exact hP w p e hp ep
    have hup : pd_up G a_parents a_wishedPlaces a_wishedSizes a_shifts a_visible a_enabled a_layouts a_gaps a_weights L se ab cs ce w := by
      by_cases e0 : w = 0
      · subst e0; exact Or.inl ⟨rfl, H.2.2.2.1, hG.1⟩
      · have hwL : w ∈ L := hw.resolve_left e0
        rcases hpb.1 with e0' | ⟨p, hp, ep⟩
        · exact absurd e0' e0
        · obtain ⟨q, hq, eq, _⟩ := H.2.2.2.2 w hwL
          have hq12 := pd_12lt H.2.1 hq
          have : q = p := pd_im (eq.symm.trans ep) (by omega) (by have := hS p hp; omega)
          subst this
          exact Or.inr ⟨q, hq12, ep, hC q hp, hG.2 w q hwL hq ep⟩
    rw [wX_settle_43]
    refine br_f (nI_ge (by omega) (by omega)) ⟨vp_in_nI (by omega) (by omega), nm_r (e' := nI w) (by rw [pd_cl (by omega)]; exact htr.1) ?_⟩
    refine px_inh (G := G) (L := L) hw12 hPw hup (fun se1 ab1 cs1 ce1 m1 m2 m3 m4 hCw => ⟨vp_in_nI hw12 (by omega), ?_⟩)
    rw [pd_cl (n := w) (by omega)]
    have fin : ∀ pl1 sz1, pd_Mo pl pl1 (pd_cP G) → pd_Mo sz sz1 (pd_cS G) → (∀ c, c ∈ pd_kd a_parents L w → pd_PA G pl1 sz1 c) →
        wX_settle_43 post n (nI (i + 1)) f_stacked (nI N) f_over f_pressed f_focus f_waiting f_noteCount a_there a_parents a_kinds a_colours a_weights a_gaps a_layouts a_values a_effects a_targets a_visible a_enabled a_on a_wishedPlaces a_wishedSizes a_shifts a_stack a_tree se1 ab1 pl1 sz1 cs1 ce1 a_eventKinds a_eventXs a_eventYs a_notes a_pixels := by
      intro pl1 sz1 m5 m6 hK
      refine ih (w :: S) (i + 1) n se1 ab1 pl1 sz1 cs1 ce1 htr.2 (by omega) (by omega) hpb.2 (fun v hv => hR v (List.mem_cons_of_mem _ hv)) (fun v hv => ?_) (fun v hv => ?_) (pd_PAm m5 m6 h0) (fun c p hc hp ep => ?_) (fun se2 ab2 pl2 sz2 cs2 ce2 k1 k2 k3 => ?_)
      · cases List.mem_cons.mp hv with
        | inl e => subst e; exact hCw
        | inr e => exact pd_CAm m1 m2 m3 m4 (hC v e)
      · cases List.mem_cons.mp hv with
        | inl e => subst e; exact hw12
        | inr e => exact hS v e
      · cases List.mem_cons.mp hp with
        | inl e => subst e; exact hK c (pd_mkd.mpr ⟨hc, ep⟩)
        | inr e => exact pd_PAm m5 m6 (hP c p hc e ep)
      · have mm : ∀ v, v ∈ S ∨ v ∈ w :: R → v ∈ w :: S ∨ v ∈ R := by
          intro v hv
          rcases hv with z | z
          · exact Or.inl (List.mem_cons_of_mem _ z)
          · cases List.mem_cons.mp z with
            | inl e => exact Or.inl (by rw [e]; exact List.mem_cons_self ..)
            | inr e => exact Or.inr e
        exact h se2 ab2 pl2 sz2 cs2 ce2 (fun v hv => k1 v (mm v hv)) k2 (fun c p hc hp ep => k3 c p hc (mm p hp) ep)
    obtain ⟨k, hk, ek⟩ := hla w hw12
    by_cases e0 : k = 0
    · subst e0
      have el : a_layouts w = 0 := ek
      obtain ⟨rfl, hs⟩ := hst
      have hL := pd_len11 H.1 H.2.1
      refine br_t el ⟨L.length + 1, px_pb2 (G := G) (N := L.length) hw12 (by omega) L 0 (L.length + 1) pl sz hs (by omega) (by omega) (fun c hc => (H.2.1 c hc).2) hPw (fun c hc a => pd_Gfree hG hw hc el a) (fun pl1 sz1 m5 m6 hK => nm_r (nI_1 i) (fin pl1 sz1 m5 m6 hK))⟩
    · have el : ¬ a_layouts w = 0 := by rw [ek]; exact nI_ne0 (by omega) (by omega)
      refine br_f el ⟨vp_in_nI hw12 (by omega), ?_⟩
      rw [ek, pd_s (by omega)]
      exact px_line (G := G) H hst hG hw (a := k - 1) (by omega) (by rw [ek]; congr 1; omega) hPw (fun pl1 sz1 m5 m6 hK => nm_r (nI_1 i) (fin pl1 sz1 m5 m6 hK))
theorem px_settle {L : List Nat} {rk : Nat → Nat} (H : pd_BI a_there a_parents L rk) (hst : pd_ST f_stacked a_stack L) (hV : pd_VA a_wishedPlaces a_wishedSizes a_weights a_layouts a_targets a_shifts) {post : SX → Prop}
    (h : ∀ tn tr se ab pl sz cs ce, pd_DE a_parents a_wishedPlaces a_wishedSizes a_shifts a_visible a_enabled a_layouts a_gaps a_weights L tn tr se ab pl sz cs ce →
      post (f_stacked, tn, f_over, f_pressed, f_focus, f_waiting, f_noteCount, a_there, a_parents, a_kinds, a_colours, a_weights, a_gaps, a_layouts, a_values, a_effects, a_targets, a_visible, a_enabled, a_on, a_wishedPlaces, a_wishedSizes, a_shifts, a_stack, tr, se, ab, pl, sz, cs, ce, a_eventKinds, a_eventXs, a_eventYs, a_notes, a_pixels)) : wpX_settle post (f_stacked, f_treeSize, f_over, f_pressed, f_focus, f_waiting, f_noteCount, a_there, a_parents, a_kinds, a_colours, a_weights, a_gaps, a_layouts, a_values, a_effects, a_targets, a_visible, a_enabled, a_on, a_wishedPlaces, a_wishedSizes, a_shifts, a_stack, a_tree, a_seen, a_able, a_places, a_sizes, a_clipStarts, a_clipEnds, a_eventKinds, a_eventXs, a_eventYs, a_notes, a_pixels) := by
  obtain ⟨G, hG⟩ := pd_Gex a_wishedPlaces a_wishedSizes a_shifts a_visible a_enabled a_layouts a_gaps a_weights H
  have hO := pd_ordW H
  have hl := pd_ordL H
  unfold wpX_settle
  refine px_order H hst (fun tr htr => ⟨3, ?_⟩)
  show wX_settle_6 post f_stacked (nI (pd_ord a_parents L).length) f_over f_pressed f_focus f_waiting f_noteCount 3 (nI 0) a_there a_parents a_kinds a_colours a_weights a_gaps a_layouts a_values a_effects a_targets a_visible a_enabled a_on a_wishedPlaces a_wishedSizes a_shifts a_stack tr a_seen a_able a_places a_sizes a_clipStarts a_clipEnds a_eventKinds a_eventXs a_eventYs a_notes a_pixels
  rw [wX_settle_6]
  refine br_f (by decide) ⟨vp_in_nI (by omega) (by omega), vp_in_nI (by omega) (by omega), nm_r (e' := upd a_places 0 (a_wishedPlaces 0)) (by rw [pd_cl (by omega)]) ⟨vp_in_nI (by omega) (by omega), vp_in_nI (by omega) (by omega), nm_r (e' := upd a_sizes 0 (a_wishedSizes 0)) (by rw [pd_cl (by omega)]) (nm_r (nI_1 0) ?_)⟩⟩
  rw [wX_settle_6]
  refine br_f (by decide) ⟨vp_in_nI (by omega) (by omega), vp_in_nI (by omega) (by omega), nm_r (e' := upd (upd a_places 0 (a_wishedPlaces 0)) 1 (a_wishedPlaces 1)) (by rw [pd_cl (by omega)]) ⟨vp_in_nI (by omega) (by omega), vp_in_nI (by omega) (by omega), nm_r (e' := upd (upd a_sizes 0 (a_wishedSizes 0)) 1 (a_wishedSizes 1)) (by rw [pd_cl (by omega)]) (nm_r (nI_1 1) ?_)⟩⟩
  rw [wX_settle_6]
  refine br_t (by decide) ⟨(pd_ord a_parents L).length + 1, ?_⟩
  refine px_set43 (G := G) H hst hl hG hV.2.2.1 (pd_ord a_parents L) [] 0 _ a_seen a_able _ _ a_clipStarts a_clipEnds htr (by omega) (by omega) hO.2 (fun w hw => (pd_ordM H w).mp hw) (fun w hw => by cases hw) (fun w hw => by cases hw) (fun a ha => ?_) (fun c p _ hp => by cases hp) (fun se ab pl sz cs ce k1 k2 k3 => ?_)
  · rw [hG.1]
    have : a = 0 ∨ a = 1 := by omega
    rcases this with rfl | rfl
    · show upd (upd a_places 0 (a_wishedPlaces 0)) 1 (a_wishedPlaces 1) 0 = a_wishedPlaces 0 ∧ upd (upd a_sizes 0 (a_wishedSizes 0)) 1 (a_wishedSizes 1) 0 = a_wishedSizes 0
      rw [pd_un (by omega), pd_us, pd_un (by omega), pd_us]; exact ⟨rfl, rfl⟩
    · show upd (upd a_places 0 (a_wishedPlaces 0)) 1 (a_wishedPlaces 1) 1 = a_wishedPlaces 1 ∧ upd (upd a_sizes 0 (a_wishedSizes 0)) 1 (a_wishedSizes 1) 1 = a_wishedSizes 1
      rw [pd_us, pd_us]; exact ⟨rfl, rfl⟩
  · refine h _ tr se ab pl sz cs ce ⟨G, hG, rfl, htr, fun w hw => pd_DApc ?_ (k1 w (Or.inr ((pd_ordM H w).mpr hw)))⟩
    cases hw with
    | inl e => subst e; exact k2
    | inr e =>
      obtain ⟨p, hp, ep, _⟩ := H.2.2.2.2 w e
      exact k3 w p e (Or.inr ((pd_ordM H p).mpr hp)) ep
end PDI
