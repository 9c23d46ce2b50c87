section PDJ
variable {g_many g_waiting g_noteCount g_over g_pressed g_focus g_acted : Int32} {b_there b_kind b_wishX b_wishY b_wishW b_wishH b_colour b_layout b_gap b_weight b_shiftX b_shiftY b_visible b_enabled b_on b_value b_parent b_effects b_targets b_kids b_kidCount b_left b_top b_width b_height b_order b_stack b_pixels b_events b_notes : Nat → Int32}
/-! R: Y: a widget out of its parent's kids, and in again -/
theorem py_take15 {post : SY → Prop} {w p N : Nat} (hw : w < 12) (hp : p < 12) (hN : N ≤ 12) (epa : b_parent w = nI p) (hk : b_kidCount p = nI N) (f : Nat → Int32) :
    ∀ (R A : List Nat) (i n : Nat) (ki : Nat → Int32), pd_sg ki (12 * p) A → pd_sg ki (12 * p + i) R → A.length ≤ i → i + R.length = N → R.length < n → (∀ c, c ∈ R → c < 12) →
    (∀ j, (j < 12 * p ∨ 12 * p + 12 ≤ j) → ki j = f j) →
    (∀ ki', pd_sg ki' (12 * p) (A ++ pd_rm R w) → (∀ j, (j < 12 * p ∨ 12 * p + 12 ≤ j) → ki' j = f j) → post (g_many, g_waiting, g_noteCount, g_over, g_pressed, g_focus, g_acted, b_there, b_kind, b_wishX, b_wishY, b_wishW, b_wishH, b_colour, b_layout, b_gap, b_weight, b_shiftX, b_shiftY, b_visible, b_enabled, b_on, b_value, b_parent, b_effects, b_targets, ki', upd b_kidCount p (nI (A ++ pd_rm R w).length), b_left, b_top, b_width, b_height, b_order, b_stack, b_pixels, b_events, b_notes)) →
    wY_takeOut_15 post (nI w) (nI (12 * p)) g_many g_waiting g_noteCount g_over g_pressed g_focus g_acted n (nI A.length) (nI i) b_there b_kind b_wishX b_wishY b_wishW b_wishH b_colour b_layout b_gap b_weight b_shiftX b_shiftY b_visible b_enabled b_on b_value b_parent b_effects b_targets ki b_kidCount b_left b_top b_width b_height b_order b_stack b_pixels b_events b_notes := by
  have vw : vp_in (nI w) 12 := vp_in_nI hw (by omega)
  have cw : (nI w).toNatClampNeg = w := pd_cl (by omega)
  have vp : vp_in (nI p) 12 := vp_in_nI hp (by omega)
  have cp : (nI p).toNatClampNeg = p := pd_cl (by omega)
  intro R
  induction R with
  | nil =>
    intro A i n ki hA _ hl hi hn _ hf h
    obtain ⟨n, rfl⟩ : ∃ m, n = m + 1 := ⟨n - 1, by omega⟩
    have hi' : i = N := hi
    rw [wY_takeOut_15]
    dsimp only
    rw [cw, epa, cp, hk]
    refine ⟨vw, vp, br_t (by rw [hi']; exact Int32.le_refl _) ⟨vw, vp, nm_r (e' := upd b_kidCount p (nI (A ++ pd_rm [] w).length)) ?_ (h ki ?_ hf)⟩⟩
    · simp [pd_rm]
    · simpa [pd_rm] using hA
  | cons c R ih =>
    intro A i n ki hA hR hl hi hn hc hf h
    obtain ⟨n, rfl⟩ : ∃ m, n = m + 1 := ⟨n - 1, by omega⟩
    rw [List.length_cons] at hi hn
    have hc12 : c < 12 := hc c (List.mem_cons_self ..)
    have hcR : ∀ d, d ∈ R → d < 12 := fun d hd => hc d (List.mem_cons_of_mem _ hd)
    have v4 : vp_in (nI (12 * p) + nI i) 144 := by rw [nI_add]; exact vp_in_nI (by omega) (by omega)
    have c4 : (nI (12 * p) + nI i).toNatClampNeg = 12 * p + i := by rw [nI_add]; exact pd_cl (by omega)
    have v3 : vp_in (nI (12 * p) + nI A.length) 144 := by rw [nI_add]; exact vp_in_nI (by omega) (by omega)
    have c3 : (nI (12 * p) + nI A.length).toNatClampNeg = 12 * p + A.length := by rw [nI_add]; exact pd_cl (by omega)
    have ek : ki (12 * p + i) = nI c := hR.1
    rw [wY_takeOut_15]
    dsimp only
    rw [cw, epa, cp, hk, c4, c3, ek]
    refine ⟨vw, vp, br_f (nI_ge (by omega) (by omega)) ⟨v4, ?_⟩⟩
    by_cases e : c = w
    · subst e
      have er : pd_rm (c :: R) c = pd_rm R c := by unfold pd_rm; simp
      rw [er] at h
      exact br_t rfl (nm_r (nI_1 i) (ih A (i + 1) n ki hA hR.2 (by omega) (by omega) (by omega) hcR hf h))
    · have er : pd_rm (c :: R) w = c :: pd_rm R w := by unfold pd_rm; simp [e]
      rw [er] at h
      obtain ⟨s1, s2⟩ := pd_cmp hA hR hl
      have hne : ¬ nI c = nI w := fun z => e (pd_im z (by omega) (by omega))
      refine br_f hne (nm_r (nI_1 A.length) ⟨v4, v3, nm_e (nm_r (nI_1 i) ?_)⟩)
      have k := ih (A ++ [c]) (i + 1) n _ s1 s2 (by rw [List.length_append, List.length_singleton]; omega) (by omega) (by omega) hcR (fun j hj => by rw [pd_un (by omega)]; exact hf j hj) (by simpa using h)
      rw [List.length_append, List.length_singleton] at k
      exact k
theorem py_take {post : SY → Prop} {w p : Nat} {K : List Nat} (hw : w < 12) (hp : p < 12) (hN : K.length ≤ 12) (epa : b_parent w = nI p) (hk : b_kidCount p = nI K.length) (hs : pd_sg b_kids (12 * p) K) (hc : ∀ c, c ∈ K → c < 12)
    (h : ∀ ki, pd_sg ki (12 * p) (pd_rm K w) → (∀ j, (j < 12 * p ∨ 12 * p + 12 ≤ j) → ki j = b_kids j) → post (g_many, g_waiting, g_noteCount, g_over, g_pressed, g_focus, g_acted, b_there, b_kind, b_wishX, b_wishY, b_wishW, b_wishH, b_colour, b_layout, b_gap, b_weight, b_shiftX, b_shiftY, b_visible, b_enabled, b_on, b_value, b_parent, b_effects, b_targets, ki, upd b_kidCount p (nI (pd_rm K w).length), b_left, b_top, b_width, b_height, b_order, b_stack, b_pixels, b_events, b_notes)) : wpY_takeOut post (g_many, g_waiting, g_noteCount, g_over, g_pressed, g_focus, g_acted, b_there, b_kind, b_wishX, b_wishY, b_wishW, b_wishH, b_colour, b_layout, b_gap, b_weight, b_shiftX, b_shiftY, b_visible, b_enabled, b_on, b_value, b_parent, b_effects, b_targets, b_kids, b_kidCount, b_left, b_top, b_width, b_height, b_order, b_stack, b_pixels, b_events, b_notes) (nI w) := by
  refine ⟨vp_in_nI hw (by omega), nm_r (e' := nI (12 * p)) (by rw [pd_cl (by omega), epa, pd_12]) ⟨K.length + 1, ?_⟩⟩
  exact py_take15 hw hp hN epa hk b_kids K [] 0 (K.length + 1) b_kids trivial hs (by simp) (by omega) (by omega) hc (fun _ _ => rfl) h
theorem pd_rml (K : List Nat) (w : Nat) : (pd_rm K w).length ≤ K.length := List.length_filter_le _ _
theorem py_hi {post : SY → Prop} {w p : Nat} {K : List Nat} (hw : w < 12) (hp : p < 12) (hN : K.length ≤ 11) (epa : b_parent w = nI p) (hk : b_kidCount p = nI K.length) (hs : pd_sg b_kids (12 * p) K) (hc : ∀ c, c ∈ K → c < 12)
    (h : ∀ ki, pd_sg ki (12 * p) (pd_rm K w ++ [w]) → (∀ j, (j < 12 * p ∨ 12 * p + 12 ≤ j) → ki j = b_kids j) → post (g_many, g_waiting, g_noteCount, g_over, g_pressed, g_focus, g_acted, b_there, b_kind, b_wishX, b_wishY, b_wishW, b_wishH, b_colour, b_layout, b_gap, b_weight, b_shiftX, b_shiftY, b_visible, b_enabled, b_on, b_value, b_parent, b_effects, b_targets, ki, upd b_kidCount p (nI ((pd_rm K w).length + 1)), b_left, b_top, b_width, b_height, b_order, b_stack, b_pixels, b_events, b_notes)) : wpY_restack post (g_many, g_waiting, g_noteCount, g_over, g_pressed, g_focus, g_acted, b_there, b_kind, b_wishX, b_wishY, b_wishW, b_wishH, b_colour, b_layout, b_gap, b_weight, b_shiftX, b_shiftY, b_visible, b_enabled, b_on, b_value, b_parent, b_effects, b_targets, b_kids, b_kidCount, b_left, b_top, b_width, b_height, b_order, b_stack, b_pixels, b_events, b_notes) (nI w) 1 := by
  have vp : vp_in (nI p) 12 := vp_in_nI hp (by omega)
  have cp : (nI p).toNatClampNeg = p := pd_cl (by omega)
  have hl := pd_rml K w
  refine ⟨vp_in_nI hw (by omega), nm_r (e' := nI p) (by rw [pd_cl (by omega), epa]) (py_take hw hp (by omega) epa hk hs hc (fun ki h1 h2 => ?_))⟩
  refine ⟨vp, vp, nm_r (e' := upd b_kidCount p (nI ((pd_rm K w).length + 1))) (by rw [cp, pd_us, pd_uu, nI_1]) (nm_r (e' := nI (pd_rm K w).length) (by rw [cp, pd_us]) ⟨1, ?_⟩)⟩
  have f70 : wY_restack_70 post (nI w) 1 (nI p) (nI (pd_rm K w).length) g_many g_waiting g_noteCount g_over g_pressed g_focus g_acted b_there b_kind b_wishX b_wishY b_wishW b_wishH b_colour b_layout b_gap b_weight b_shiftX b_shiftY b_visible b_enabled b_on b_value b_parent b_effects b_targets ki (upd b_kidCount p (nI ((pd_rm K w).length + 1))) b_left b_top b_width b_height b_order b_stack b_pixels b_events b_notes := by
    have e : 12 * nI p + nI (pd_rm K w).length = nI (12 * p + (pd_rm K w).length) := pd_12b _ _
    refine br_f (by decide) ⟨by rw [e]; exact vp_in_nI (by omega) (by omega), nm_r (e' := upd ki (12 * p + (pd_rm K w).length) (nI w)) (by rw [e, pd_cl (by omega)]) (h _ ?_ (fun j hj => by rw [pd_un (by omega)]; exact h2 j hj))⟩
    exact (pd_sg_a _ [w] _).mpr ⟨pd_sg_c _ _ h1 (fun j _ hj => pd_un (by omega)), pd_us, trivial⟩
  rw [wY_restack_29]
  exact br_c (fun _ => f70) (fun _ => br_f (by decide) f70)
theorem py_lo {post : SY → Prop} {w p : Nat} {K : List Nat} (hw : w < 12) (hp : p < 12) (hN : K.length ≤ 11) (epa : b_parent w = nI p) (hk : b_kidCount p = nI K.length) (hs : pd_sg b_kids (12 * p) K) (hc : ∀ c, c ∈ K → c < 12)
    (h : ∀ ki, pd_sg ki (12 * p) (w :: pd_rm K w) → (∀ j, (j < 12 * p ∨ 12 * p + 12 ≤ j) → ki j = b_kids j) → post (g_many, g_waiting, g_noteCount, g_over, g_pressed, g_focus, g_acted, b_there, b_kind, b_wishX, b_wishY, b_wishW, b_wishH, b_colour, b_layout, b_gap, b_weight, b_shiftX, b_shiftY, b_visible, b_enabled, b_on, b_value, b_parent, b_effects, b_targets, ki, upd b_kidCount p (nI ((pd_rm K w).length + 1)), b_left, b_top, b_width, b_height, b_order, b_stack, b_pixels, b_events, b_notes)) : wpY_restack post (g_many, g_waiting, g_noteCount, g_over, g_pressed, g_focus, g_acted, b_there, b_kind, b_wishX, b_wishY, b_wishW, b_wishH, b_colour, b_layout, b_gap, b_weight, b_shiftX, b_shiftY, b_visible, b_enabled, b_on, b_value, b_parent, b_effects, b_targets, b_kids, b_kidCount, b_left, b_top, b_width, b_height, b_order, b_stack, b_pixels, b_events, b_notes) (nI w) 0 := by
  have vp : vp_in (nI p) 12 := vp_in_nI hp (by omega)
  have cp : (nI p).toNatClampNeg = p := pd_cl (by omega)
  have hl := pd_rml K w
  refine ⟨vp_in_nI hw (by omega), nm_r (e' := nI p) (by rw [pd_cl (by omega), epa]) (py_take hw hp (by omega) epa hk hs hc (fun ki h1 h2 => ?_))⟩
  refine ⟨vp, vp, nm_r (e' := upd b_kidCount p (nI ((pd_rm K w).length + 1))) (by rw [cp, pd_us, pd_uu, nI_1]) (nm_r (e' := nI (pd_rm K w).length) (by rw [cp, pd_us]) ⟨(pd_rm K w).length + 1, ?_⟩)⟩
  have go : ∀ (d n : Nat), d ≤ (pd_rm K w).length → d < n → wY_restack_29 post (nI w) 0 (nI p) (nI (pd_rm K w).length) g_many g_waiting g_noteCount g_over g_pressed g_focus g_acted n (nI d) b_there b_kind b_wishX b_wishY b_wishW b_wishH b_colour b_layout b_gap b_weight b_shiftX b_shiftY b_visible b_enabled b_on b_value b_parent b_effects b_targets (pd_H ki (12 * p + (pd_rm K w).length) (12 * p + d)) (upd b_kidCount p (nI ((pd_rm K w).length + 1))) b_left b_top b_width b_height b_order b_stack b_pixels b_events b_notes := by
    intro d
    induction d with
    | zero =>
      intro n _ hn
      obtain ⟨n, rfl⟩ : ∃ m, n = m + 1 := ⟨n - 1, by omega⟩
      rw [wY_restack_29]
      have e : 12 * nI p + 0 = nI (12 * p) := by rw [pd_12, Int32.add_zero]
      refine br_t (Int32.le_refl _) (br_t rfl ⟨by rw [e]; exact vp_in_nI (by omega) (by omega), nm_r (e' := upd (pd_H ki (12 * p + (pd_rm K w).length) (12 * p)) (12 * p) (nI w)) (by rw [e, pd_cl (by omega)]; rfl) (h _ ⟨pd_us, ?_⟩ (fun j hj => ?_))⟩)
      · refine pd_sg_s _ _ h1 (fun j h3 h4 => ?_)
        rw [pd_un (by omega)]
        exact if_pos (by omega)
      · rw [pd_un (by omega)]
        exact (if_neg (by omega)).trans (h2 j hj)
    | succ d ih =>
      intro n hd hn
      obtain ⟨n, rfl⟩ : ∃ m, n = m + 1 := ⟨n - 1, by omega⟩
      rw [wY_restack_29]
      have e : 12 * nI p + nI (d + 1) = nI (12 * p + d + 1) := pd_12b _ _
      have e' : nI (12 * p + d + 1) - 1 = nI (12 * p + d) := nI_pred _
      refine br_f (nI_nle (by omega) (by omega)) (br_t rfl ?_)
      rw [e, e', pd_cl (by omega), pd_cl (by omega)]
      refine ⟨vp_in_nI (by omega) (by omega), vp_in_nI (by omega) (by omega), nm_r (e' := pd_H ki (12 * p + (pd_rm K w).length) (12 * p + d)) ?_ (nm_r (pd_m1 d) (ih n (by omega) (by omega)))⟩
      show upd (pd_H ki (12 * p + (pd_rm K w).length) (12 * p + d + 1)) (12 * p + d + 1) (pd_H ki (12 * p + (pd_rm K w).length) (12 * p + d + 1) (12 * p + d)) = _
      rw [pd_Hg']
      exact pd_H1 ki (by omega)
  have k := go (pd_rm K w).length ((pd_rm K w).length + 1) (Nat.le_refl _) (by omega)
  rw [pd_H0] at k
  exact k
end PDJ
