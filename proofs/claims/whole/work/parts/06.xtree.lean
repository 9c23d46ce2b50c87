section PDF
variable {f_stacked f_treeSize f_over f_pressed f_focus f_waiting f_noteCount : Int32} {a_there a_parents a_kinds a_colours a_weights a_gaps a_layouts a_values a_effects a_targets a_visible a_enabled a_on a_wishedPlaces a_wishedSizes a_shifts a_stack a_tree a_seen a_able a_places a_sizes a_clipStarts a_clipEnds a_eventKinds a_eventXs a_eventYs a_notes a_pixels : Nat → Int32}
/-! M: X: the tree's order -/
theorem pd_Hg' (f : Nat → Int32) {n i : Nat} : pd_H f n (i + 1) i = f i := if_neg (by omega)
theorem px_ins5 {post : SX → Prop} {p q w : Nat} (f : Nat → Int32) (hN : p + q < 12)
    (h : post (f_stacked, nI (p + q + 1), f_over, f_pressed, f_focus, f_waiting, f_noteCount, a_there, a_parents, a_kinds, a_colours, a_weights, a_gaps, a_layouts, a_values, a_effects, a_targets, a_visible, a_enabled, a_on, a_wishedPlaces, a_wishedSizes, a_shifts, a_stack, upd (pd_H f (p + q) p) p (nI w), a_seen, a_able, a_places, a_sizes, a_clipStarts, a_clipEnds, a_eventKinds, a_eventXs, a_eventYs, a_notes, a_pixels)) :
    ∀ (d n : Nat), d ≤ q → d < n → wX_insertInTree_5 post (nI p) (nI w) f_stacked (nI (p + q)) f_over f_pressed f_focus f_waiting f_noteCount n (nI (p + d)) a_there a_parents a_kinds a_colours a_weights a_gaps a_layouts a_values a_effects a_targets a_visible a_enabled a_on a_wishedPlaces a_wishedSizes a_shifts a_stack (pd_H f (p + q) (p + d)) a_seen a_able a_places a_sizes a_clipStarts a_clipEnds a_eventKinds a_eventXs a_eventYs a_notes a_pixels := by
  intro d
  induction d with
  | zero =>
    intro n h1 h2
    obtain ⟨n, rfl⟩ : ∃ m, n = m + 1 := ⟨n - 1, by omega⟩
    rw [wX_insertInTree_5]
    exact br_t (nI_le (by omega) (by omega)) ⟨vp_in_nI (by omega) (by omega), nm_r (e' := upd (pd_H f (p + q) p) p (nI w)) (by rw [pd_cl (by omega)]; rfl) (nm_r (nI_1 _) h)⟩
  | succ d ih =>
    intro n h1 h2
    obtain ⟨n, rfl⟩ : ∃ m, n = m + 1 := ⟨n - 1, by omega⟩
    rw [wX_insertInTree_5]
    have e1 : nI (p + (d + 1)) - 1 = nI (p + d) := nI_pred (p + d)
    refine br_f (nI_ge (by omega) (by omega)) ⟨by rw [e1]; exact vp_in_nI (by omega) (by omega), vp_in_nI (by omega) (by omega), nm_r (e' := pd_H f (p + q) (p + d)) ?_ (nm_r (pd_m1 (p + d)) (ih n (by omega) (by omega)))⟩
    rw [e1, pd_cl (by omega), pd_cl (by omega)]
    show upd (pd_H f (p + q) (p + d + 1)) (p + d + 1) (pd_H f (p + q) (p + d + 1) (p + d)) = _
    rw [pd_Hg']
    exact pd_H1 f (by omega)
theorem px_insT {post : SX → Prop} {A B : List Nat} {p t w : Nat} (hp : p = A.length) (ht : t = A.length + B.length) (hN : t < 12) (hs : pd_sg a_tree 0 (A ++ B))
    (h : ∀ tr, pd_sg tr 0 (A ++ w :: B) → post (f_stacked, nI (t + 1), f_over, f_pressed, f_focus, f_waiting, f_noteCount, a_there, a_parents, a_kinds, a_colours, a_weights, a_gaps, a_layouts, a_values, a_effects, a_targets, a_visible, a_enabled, a_on, a_wishedPlaces, a_wishedSizes, a_shifts, a_stack, tr, a_seen, a_able, a_places, a_sizes, a_clipStarts, a_clipEnds, a_eventKinds, a_eventXs, a_eventYs, a_notes, a_pixels)) :
    wpX_insertInTree post (f_stacked, nI t, f_over, f_pressed, f_focus, f_waiting, f_noteCount, a_there, a_parents, a_kinds, a_colours, a_weights, a_gaps, a_layouts, a_values, a_effects, a_targets, a_visible, a_enabled, a_on, a_wishedPlaces, a_wishedSizes, a_shifts, a_stack, a_tree, a_seen, a_able, a_places, a_sizes, a_clipStarts, a_clipEnds, a_eventKinds, a_eventXs, a_eventYs, a_notes, a_pixels) (nI p) (nI w) := by
  subst hp ht
  have k := px_ins5 (post := post) (p := A.length) (q := B.length) (w := w) a_tree hN (h _ (pd_Hsg hs)) B.length (B.length + 1) (Nat.le_refl _) (by omega)
  rw [pd_H0] at k
  exact ⟨B.length + 1, k⟩
theorem px_insC6 {post : SX → Prop} {A B : List Nat} {w N p : Nat} (hp : p = A.length) (hN : N ≤ 12) :
    ∀ (R C : List Nat) (i k t n : Nat) (tr : Nat → Int32), pd_sg a_stack i R → i + R.length = N → R.length < n → (∀ c, c ∈ R → c < 12) → pd_sg tr 0 (A ++ w :: (C ++ B)) →
    k = A.length + 1 + C.length → t = A.length + 1 + C.length + B.length → t + (pd_kd a_parents R w).length ≤ 12 →
    (∀ tr', pd_sg tr' 0 (A ++ w :: (C ++ pd_kd a_parents R w ++ B)) → post (nI N, nI (t + (pd_kd a_parents R w).length), f_over, f_pressed, f_focus, f_waiting, f_noteCount, a_there, a_parents, a_kinds, a_colours, a_weights, a_gaps, a_layouts, a_values, a_effects, a_targets, a_visible, a_enabled, a_on, a_wishedPlaces, a_wishedSizes, a_shifts, a_stack, tr', a_seen, a_able, a_places, a_sizes, a_clipStarts, a_clipEnds, a_eventKinds, a_eventXs, a_eventYs, a_notes, a_pixels)) →
    wX_insertChildren_6 post (nI p) n (nI k) (nI i) (nI N) (nI t) f_over f_pressed f_focus f_waiting f_noteCount a_there a_parents a_kinds a_colours a_weights a_gaps a_layouts a_values a_effects a_targets a_visible a_enabled a_on a_wishedPlaces a_wishedSizes a_shifts a_stack tr a_seen a_able a_places a_sizes a_clipStarts a_clipEnds a_eventKinds a_eventXs a_eventYs a_notes a_pixels := by
  subst hp
  intro R
  induction R with
  | nil =>
    intro C i k t n tr _ hi hn _ hs _ _ _ h
    obtain ⟨n, rfl⟩ : ∃ m, n = m + 1 := ⟨n - 1, by omega⟩
    rw [wX_insertChildren_6]
    have hi' : i = N := hi
    refine br_t (by rw [hi']; exact Int32.le_refl _) ?_
    have h' := h tr (by simpa [pd_kd] using hs)
    simpa [pd_kd] using h'
  | cons c R ih =>
    intro C i k t n tr hst hi hn hc hs hk ht hl h
    obtain ⟨n, rfl⟩ : ∃ m, n = m + 1 := ⟨n - 1, by omega⟩
    rw [List.length_cons] at hi hn
    have hc12 : c < 12 := hc c (List.mem_cons_self ..)
    have es : a_stack (nI i).toNatClampNeg = nI c := by rw [pd_cl (by omega)]; exact hst.1
    have et : tr (nI A.length).toNatClampNeg = nI w := by
      rw [pd_cl (by omega)]
      have z := ((pd_sg_a A (w :: (C ++ B)) 0).mp hs).2
      rw [Nat.zero_add] at z
      exact z.1
    rw [wX_insertChildren_6]
    dsimp only
    rw [es, pd_cl (n := c) (by omega), et]
    refine br_f (nI_ge (by omega) (by omega)) ⟨vp_in_nI (by omega) (by omega), vp_in_nI hc12 (by omega), vp_in_nI (by omega) (by omega), ?_⟩
    by_cases hp : a_parents c = nI w
    · have ek : pd_kd a_parents (c :: R) w = c :: pd_kd a_parents R w := by unfold pd_kd; simp [hp]
      rw [ek, List.length_cons] at hl
      refine br_t hp ⟨vp_in_nI (by omega) (by omega), ?_⟩
      refine px_insT (A := A ++ w :: C) (B := B) (by simp; omega) (by simp; omega) (by omega) (by simpa using hs) (fun tr' hs' => ?_)
      refine nm_r (nI_1 k) (nm_r (nI_1 i) ?_)
      refine ih (C ++ [c]) (i + 1) (k + 1) (t + 1) n tr' hst.2 (by omega) (by omega) (fun d hd => hc d (List.mem_cons_of_mem _ hd)) (by simpa using hs') (by simp; omega) (by simp; omega) (by omega) (fun tr2 h2 => ?_)
      have h' := h tr2 (by rw [ek]; simpa using h2)
      rw [ek, List.length_cons, show t + ((pd_kd a_parents R w).length + 1) = t + 1 + (pd_kd a_parents R w).length by omega] at h'
      exact h'
    · have ek : pd_kd a_parents (c :: R) w = pd_kd a_parents R w := by unfold pd_kd; simp [hp]
      rw [ek] at hl h
      refine br_f hp (nm_r (nI_1 i) ?_)
      exact ih C (i + 1) k t n tr hst.2 (by omega) (by omega) (fun d hd => hc d (List.mem_cons_of_mem _ hd)) hs hk ht hl h
theorem px_ord14 {post : SX → Prop} {L : List Nat} {rk : Nat → Nat} (H : pd_BI a_there a_parents L rk) (hst : pd_sg a_stack 0 L) :
    ∀ (m : Nat) (D T : List Nat) (p t n : Nat) (tr : Nat → Int32), m + D.length = 12 → pd_WL a_parents L D T → m < n → pd_sg tr 0 (D ++ T) → p = D.length → t = D.length + T.length →
    (∀ tr', pd_sg tr' 0 (pd_run a_parents L m D T) → post (nI L.length, nI (pd_run a_parents L m D T).length, f_over, f_pressed, f_focus, f_waiting, f_noteCount, a_there, a_parents, a_kinds, a_colours, a_weights, a_gaps, a_layouts, a_values, a_effects, a_targets, a_visible, a_enabled, a_on, a_wishedPlaces, a_wishedSizes, a_shifts, a_stack, tr', a_seen, a_able, a_places, a_sizes, a_clipStarts, a_clipEnds, a_eventKinds, a_eventXs, a_eventYs, a_notes, a_pixels)) →
    wX_orderTree_14 post n (nI p) (nI L.length) (nI t) f_over f_pressed f_focus f_waiting f_noteCount a_there a_parents a_kinds a_colours a_weights a_gaps a_layouts a_values a_effects a_targets a_visible a_enabled a_on a_wishedPlaces a_wishedSizes a_shifts a_stack tr a_seen a_able a_places a_sizes a_clipStarts a_clipEnds a_eventKinds a_eventXs a_eventYs a_notes a_pixels := by
  have hL := pd_len11 H.1 H.2.1
  intro m
  induction m with
  | zero =>
    intro D T p t n tr hm hW hn hs hp ht h
    obtain ⟨n, rfl⟩ : ∃ k, n = k + 1 := ⟨n - 1, by omega⟩
    have hl := pd_WLlen H hW
    have e : T = [] := List.length_eq_zero_iff.mp (by omega)
    subst e hp ht
    rw [wX_orderTree_14]
    refine br_t (nI_le (a := 12) (by omega) (by omega)) ?_
    have h' := h tr (by simpa [pd_run] using hs)
    simpa [pd_run] using h'
  | succ m ih =>
    intro D T p t n tr hm hW hn hs hp ht h
    obtain ⟨n, rfl⟩ : ∃ k, n = k + 1 := ⟨n - 1, by omega⟩
    rw [wX_orderTree_14]
    refine br_f (nI_ge (b := 12) (by omega) (by omega)) ?_
    cases T with
    | nil =>
      subst hp ht
      refine br_t (nI_le (by simp) (by omega)) ?_
      have h' := h tr (by simpa [pd_run] using hs)
      simpa [pd_run] using h'
    | cons w R =>
      rw [List.length_cons] at ht
      have hW' := pd_WLs H hW
      have hl := pd_WLlen H hW'
      rw [List.length_append, List.length_append, List.length_singleton] at hl
      refine br_f (nI_ge (by omega) (by omega)) ?_
      refine nm_r (nI_1 p) ⟨L.length + 1, px_insC6 (A := D) (B := R) (w := w) hp (by omega) L [] 0 (p + 1) t (L.length + 1) tr hst (by omega) (by omega) (fun c hc => (H.2.1 c hc).2) (by simpa using hs) (by simp; omega) (by simp; omega) (by omega) (fun tr' hs' => ?_)⟩
      refine nm_r (nI_1 p) ?_
      refine ih (D ++ [w]) (pd_kd a_parents L w ++ R) (p + 1) _ n tr' (by rw [List.length_append, List.length_singleton]; omega) hW' (by omega) (by simpa using hs') (by rw [List.length_append, List.length_singleton]; omega) (by simp; omega) (fun tr2 h2 => ?_)
      exact h tr2 h2
theorem px_order {post : SX → Prop} {L : List Nat} {rk : Nat → Nat} (H : pd_BI a_there a_parents L rk) (hst : pd_ST f_stacked a_stack L)
    (h : ∀ tr, pd_sg tr 0 (pd_ord a_parents L) → post (f_stacked, nI (pd_ord a_parents L).length, f_over, f_pressed, f_focus, f_waiting, f_noteCount, a_there, a_parents, a_kinds, a_colours, a_weights, a_gaps, a_layouts, a_values, a_effects, a_targets, a_visible, a_enabled, a_on, a_wishedPlaces, a_wishedSizes, a_shifts, a_stack, tr, a_seen, a_able, a_places, a_sizes, a_clipStarts, a_clipEnds, a_eventKinds, a_eventXs, a_eventYs, a_notes, a_pixels)) : wpX_orderTree post (f_stacked, f_treeSize, f_over, f_pressed, f_focus, f_waiting, f_noteCount, a_there, a_parents, a_kinds, a_colours, a_weights, a_gaps, a_layouts, a_values, a_effects, a_targets, a_visible, a_enabled, a_on, a_wishedPlaces, a_wishedSizes, a_shifts, a_stack, a_tree, a_seen, a_able, a_places, a_sizes, a_clipStarts, a_clipEnds, a_eventKinds, a_eventXs, a_eventYs, a_notes, a_pixels) := by
  obtain ⟨rfl, hs⟩ := hst
  refine nm_r (e' := upd a_tree 0 0) rfl ⟨13, ?_⟩
  exact px_ord14 H hs 12 [] [0] 0 1 13 _ rfl (pd_WL0 _ _) (by omega) ⟨pd_us, trivial⟩ rfl rfl h
end PDF
