section PDT
/-! Z: remove -/
def pd_tc (th : Nat → Int32) (de : Nat → Bool) (a : Nat) (S : List Nat) : Nat → Int32 := fun w => if de w = true ∧ (w ∈ S ∨ w = a) then 0 else th w
theorem pd_tcK {th : Nat → Int32} {de : Nat → Bool} {a w : Nat} {S : List Nat} (h : de w = true → w = a) : pd_tc th de a (w :: S) = pd_tc th de a S := by
  funext v
  unfold pd_tc
  have e : (de v = true ∧ (v ∈ w :: S ∨ v = a)) ↔ (de v = true ∧ (v ∈ S ∨ v = a)) := by
    constructor
    · rintro ⟨h1, h2⟩
      refine ⟨h1, ?_⟩
      rcases h2 with z | z
      · cases List.mem_cons.mp z with
        | inl e => exact Or.inr (by rw [e] at h1 ⊢; exact h h1)
        | inr e => exact Or.inl e
      · exact Or.inr z
    · rintro ⟨h1, h2⟩
      exact ⟨h1, h2.imp (fun z => List.mem_cons_of_mem _ z) id⟩
  simp only [e]
theorem pd_tcU {th : Nat → Int32} {de : Nat → Bool} {a w : Nat} {S : List Nat} (h : de w = true) : pd_tc th de a (w :: S) = upd (pd_tc th de a S) w 0 := by
  funext v
  by_cases e : v = w
  · subst e
    rw [pd_us]
    exact if_pos ⟨h, Or.inl (List.mem_cons_self ..)⟩
  · rw [pd_un e]
    unfold pd_tc
    have e : (de v = true ∧ (v ∈ w :: S ∨ v = a)) ↔ (de v = true ∧ (v ∈ S ∨ v = a)) := by
      constructor
      · rintro ⟨h1, h2⟩
        exact ⟨h1, h2.imp (fun z => (List.mem_cons.mp z).resolve_left e) id⟩
      · rintro ⟨h1, h2⟩
        exact ⟨h1, h2.imp (fun z => List.mem_cons_of_mem _ z) id⟩
    simp only [e]
def pd_fl (th : Nat → Int32) (L : List Nat) : List Nat := L.filter (fun v => decide (th v ≠ 0))
theorem pd_flU {th : Nat → Int32} {L : List Nat} {w : Nat} : pd_fl (upd th w 0) L = pd_rm (pd_fl th L) w := by
  unfold pd_fl pd_rm
  rw [List.filter_filter]
  apply List.filter_congr
  intro v _
  by_cases e : v = w
  · subst e; rw [pd_us]; simp
  · rw [pd_un e]; simp [e]
theorem pd_Z2 {C p : Nat → Int32} {i : Nat} (h : C i = p i) : pd_Z C p i = pd_Z C p (i + 1) := by
  funext q
  unfold pd_Z
  by_cases e : q = i
  · subst e; rw [if_neg (by omega), if_pos (by omega), h]
  · have h : q < i ↔ q < i + 1 := by omega
    simp only [h]
variable {f_stacked f_treeSize f_over f_pressed f_focus f_waiting f_noteCount : Int32} {a_there a_parents a_kinds a_colours a_weights a_gaps a_layouts a_values a_effects a_targets a_visible a_enabled a_on a_wishedPlaces a_wishedSizes a_shifts a_stack a_tree a_seen a_able a_places a_sizes a_clipStarts a_clipEnds a_eventKinds a_eventXs a_eventYs a_notes a_pixels : Nat → Int32}
variable {g_many g_waiting g_acted : Int32} {b_kids b_kidCount b_left b_top b_width b_height b_order b_stack b_events : Nat → Int32}
theorem px_take {post : SX → Prop} {w : Nat} {L : List Nat} (hw : w < 12) (hST : pd_ST f_stacked a_stack L) (hl : L.length ≤ 11) (hc : ∀ c, c ∈ L → c < 12)
    (h : ∀ n st, pd_ST n st (pd_rm L w) → post (n, f_treeSize, (if f_over = nI w then -1 else f_over), (if f_pressed = nI w then -1 else f_pressed), (if f_focus = nI w then -1 else f_focus), f_waiting, f_noteCount, upd a_there w 0, a_parents, a_kinds, a_colours, a_weights, a_gaps, a_layouts, a_values, a_effects, a_targets, a_visible, a_enabled, a_on, a_wishedPlaces, a_wishedSizes, a_shifts, st, a_tree, a_seen, a_able, a_places, a_sizes, a_clipStarts, a_clipEnds, a_eventKinds, a_eventXs, a_eventYs, a_notes, a_pixels)) :
    wpX_takeAway post (f_stacked, f_treeSize, f_over, f_pressed, f_focus, f_waiting, f_noteCount, a_there, a_parents, a_kinds, a_colours, a_weights, a_gaps, a_layouts, a_values, a_effects, a_targets, a_visible, a_enabled, a_on, a_wishedPlaces, a_wishedSizes, a_shifts, a_stack, a_tree, a_seen, a_able, a_places, a_sizes, a_clipStarts, a_clipEnds, a_eventKinds, a_eventXs, a_eventYs, a_notes, a_pixels) (nI w) := by
  refine ⟨vp_in_nI hw (by omega), nm_r (e' := upd a_there w 0) (by rw [pd_cl (by omega), pd_b0]) (px_uns hw hST hl hc (fun n st h1 => ?_))⟩
  have h' := h n st h1
  by_cases c1 : f_over = nI w
  · rw [if_pos c1] at h'
    refine br_t c1 ?_
    by_cases c2 : f_pressed = nI w
    · rw [if_pos c2] at h'
      refine br_t c2 ?_
      by_cases c3 : f_focus = nI w
      · rw [if_pos c3] at h'; exact br_t c3 h'
      · rw [if_neg c3] at h'; exact br_f c3 h'
    · rw [if_neg c2] at h'
      refine br_f c2 ?_
      by_cases c3 : f_focus = nI w
      · rw [if_pos c3] at h'; exact br_t c3 h'
      · rw [if_neg c3] at h'; exact br_f c3 h'
  · rw [if_neg c1] at h'
    refine br_f c1 ?_
    by_cases c2 : f_pressed = nI w
    · rw [if_pos c2] at h'
      refine br_t c2 ?_
      by_cases c3 : f_focus = nI w
      · rw [if_pos c3] at h'; exact br_t c3 h'
      · rw [if_neg c3] at h'; exact br_f c3 h'
    · rw [if_neg c2] at h'
      refine br_f c2 ?_
      by_cases c3 : f_focus = nI w
      · rw [if_pos c3] at h'; exact br_t c3 h'
      · rw [if_neg c3] at h'; exact br_f c3 h'
theorem px_rem23 {post : Int32 → SX → Prop} {L : List Nat} {rk : Nat → Nat} {th : Nat → Int32} {de : Nat → Bool} {a N : Nat} {o1 o2 o3 : Int32} (H : pd_BI th a_parents L rk) (ha : a ∈ L) (hN : N ≤ 12)
    (h0 : de 0 = false) (hd : ∀ c p, c ∈ L → (p = 0 ∨ p ∈ L) → a_parents c = nI p → de c = (decide (c = a) || de p)) (s1 : pd_SP L o1) (s2 : pd_SP L o2) (s3 : pd_SP L o3) :
    ∀ (R S : List Nat) (i n m : Nat) (fs : Int32) (st : Nat → Int32), pd_sg a_tree i R → i + R.length = N → R.length < n → pd_pb a_parents S R → (∀ w, w ∈ R → w = 0 ∨ w ∈ L) → (∀ w, w ∈ S → w = 0 ∨ w ∈ L) → (S ++ R).Nodup → pd_ST fs st (pd_fl (pd_tc th de a S) L) →
    (∀ fs' st' S', (∀ w, w ∈ S' ↔ w ∈ S ∨ w ∈ R) → pd_ST fs' st' (pd_fl (pd_tc th de a S') L) →
      wpX_settle (fun u => match u with | (f_stacked1, f_treeSize1, f_over1, f_pressed1, f_focus1, f_waiting1, f_noteCount1, a_there1, a_parents1, a_kinds1, a_colours1, a_weights1, a_gaps1, a_layouts1, a_values1, a_effects1, a_targets1, a_visible1, a_enabled1, a_on1, a_wishedPlaces1, a_wishedSizes1, a_shifts1, a_stack1, a_tree1, a_seen1, a_able1, a_places1, a_sizes1, a_clipStarts1, a_clipEnds1, a_eventKinds1, a_eventXs1, a_eventYs1, a_notes1, a_pixels1) => post (nI (m + (R.filter (fun w => de w && decide (w ≠ a))).length)) (f_stacked1, f_treeSize1, f_over1, f_pressed1, f_focus1, f_waiting1, f_noteCount1, a_there1, a_parents1, a_kinds1, a_colours1, a_weights1, a_gaps1, a_layouts1, a_values1, a_effects1, a_targets1, a_visible1, a_enabled1, a_on1, a_wishedPlaces1, a_wishedSizes1, a_shifts1, a_stack1, a_tree1, a_seen1, a_able1, a_places1, a_sizes1, a_clipStarts1, a_clipEnds1, a_eventKinds1, a_eventXs1, a_eventYs1, a_notes1, a_pixels1))
        (fs', nI N, pd_ovf (pd_tc th de a S') o1, pd_ovf (pd_tc th de a S') o2, pd_ovf (pd_tc th de a S') o3, f_waiting, f_noteCount, pd_tc th de a S', a_parents, a_kinds, a_colours, a_weights, a_gaps, a_layouts, a_values, a_effects, a_targets, a_visible, a_enabled, a_on, a_wishedPlaces, a_wishedSizes, a_shifts, st', a_tree, a_seen, a_able, a_places, a_sizes, a_clipStarts, a_clipEnds, a_eventKinds, a_eventXs, a_eventYs, a_notes, a_pixels)) →
    wX_remove_23 post n (nI m) (nI i) fs (nI N) (pd_ovf (pd_tc th de a S) o1) (pd_ovf (pd_tc th de a S) o2) (pd_ovf (pd_tc th de a S) o3) f_waiting f_noteCount (pd_tc th de a S) a_parents a_kinds a_colours a_weights a_gaps a_layouts a_values a_effects a_targets a_visible a_enabled a_on a_wishedPlaces a_wishedSizes a_shifts st a_tree a_seen a_able a_places a_sizes a_clipStarts a_clipEnds a_eventKinds a_eventXs a_eventYs a_notes a_pixels := by
  have hda : de a = true := by
    obtain ⟨p, hp, ep, _⟩ := H.2.2.2.2 a ha
    rw [hd a p ha hp ep]; simp
  have hth : ∀ w, (w = 0 ∨ w ∈ L) → th w ≠ 0 := fun w hw => (H.2.2.1 w (pd_12lt H.2.1 hw)).mpr hw
  intro R
  induction R with
  | nil =>
    intro S i n m fs st _ hi hn _ _ _ _ hs h
    obtain ⟨n, rfl⟩ : ∃ k, n = k + 1 := ⟨n - 1, by omega⟩
    rw [wX_remove_23]
    have hi' : i = N := hi
    refine br_t (by rw [hi']; exact Int32.le_refl _) ?_
    exact h fs st S (fun w => ⟨Or.inl, fun z => z.elim id (fun y => by cases y)⟩) hs
  | cons w R ih =>
    intro S i n m fs st htr hi hn hpb hR hS hnd hs h
    obtain ⟨n, rfl⟩ : ∃ k, n = k + 1 := ⟨n - 1, by omega⟩
    rw [List.length_cons] at hi hn
    have hw : w = 0 ∨ w ∈ L := hR w (List.mem_cons_self ..)
    have hw12 := pd_12lt H.2.1 hw
    have hwS : w ∉ S := fun z => (List.nodup_append.mp hnd).2.2 w z w (List.mem_cons_self ..) rfl
    have hnd' : ((w :: S) ++ R).Nodup := by
      have e := List.perm_middle (a := w) (l₁ := S) (l₂ := R)
      exact e.nodup hnd
    have hR' : ∀ v, v ∈ R → v = 0 ∨ v ∈ L := fun v hv => hR v (List.mem_cons_of_mem _ hv)
    have hS' : ∀ v, v ∈ w :: S → v = 0 ∨ v ∈ L := fun v hv => (List.mem_cons.mp hv).elim (fun e => e ▸ hw) (fun e => hS v e)
    have mm : ∀ S' : List Nat, (∀ v, v ∈ S' ↔ v ∈ w :: S ∨ v ∈ R) → ∀ v, v ∈ S' ↔ v ∈ S ∨ v ∈ w :: R := by
      intro S' hS2 v
      rw [hS2 v, List.mem_cons, List.mem_cons]
      constructor
      · rintro ((z | z) | z)
        · exact Or.inr (Or.inl z)
        · exact Or.inl z
        · exact Or.inr (Or.inr z)
      · rintro (z | z | z)
        · exact Or.inl (Or.inr z)
        · exact Or.inl (Or.inl z)
        · exact Or.inr z
    rw [wX_remove_23]
    refine br_f (nI_ge (by omega) (by omega)) ⟨vp_in_nI (by omega) (by omega), nm_r (e' := nI w) (by rw [pd_cl (by omega)]; exact htr.1) ?_⟩
    rw [pd_cl (n := w) (by omega)]
    -- passed over: nothing changes
    have skip : (de w = true → w = a) → wX_remove_23 post n (nI m) (nI (i + 1)) fs (nI N) (pd_ovf (pd_tc th de a S) o1) (pd_ovf (pd_tc th de a S) o2) (pd_ovf (pd_tc th de a S) o3) f_waiting f_noteCount (pd_tc th de a S) a_parents a_kinds a_colours a_weights a_gaps a_layouts a_values a_effects a_targets a_visible a_enabled a_on a_wishedPlaces a_wishedSizes a_shifts st a_tree a_seen a_able a_places a_sizes a_clipStarts a_clipEnds a_eventKinds a_eventXs a_eventYs a_notes a_pixels := by
      intro hk
      have ef : ((w :: R).filter (fun w => de w && decide (w ≠ a))) = R.filter (fun w => de w && decide (w ≠ a)) := by
        rw [List.filter_cons_of_neg]
        intro z
        rw [Bool.and_eq_true, decide_eq_true_iff] at z
        exact z.2 (hk z.1)
      rw [ef] at h
      have k := ih (w :: S) (i + 1) n m fs st htr.2 (by omega) (by omega) hpb.2 hR' hS' hnd' (by rw [pd_tcK hk]; exact hs) (fun fs' st' S' z1 z2 => h fs' st' S' (mm S' z1) z2)
      rw [pd_tcK hk] at k
      exact k
    by_cases e0 : w = 0
    · refine br_t (by rw [e0]; exact nI_0) (nm_r (nI_1 i) (skip (fun z => ?_)))
      rw [e0, h0] at z
      exact absurd z (by decide)
    · have hwL : w ∈ L := hw.resolve_left e0
      refine br_f (nI_ne0 (by omega) (by omega)) ⟨vp_in_nI hw12 (by omega), ?_⟩
      by_cases ea : w = a
      · have ez : pd_tc th de a S w = 0 := if_pos ⟨by rw [ea]; exact hda, Or.inr ea⟩
        exact br_t ez (nm_r (nI_1 i) (skip (fun _ => ea)))
      · have ez : pd_tc th de a S w = th w := if_neg (fun z => z.2.elim hwS ea)
        obtain ⟨p, hpS, ep⟩ := hpb.1.resolve_left e0
        have hp := hS p hpS
        have hp12 := pd_12lt H.2.1 hp
        have edp := hd w p hwL hp ep
        rw [decide_eq_false ea, Bool.false_or] at edp
        refine br_f (by rw [ez]; exact hth w hw) ⟨vp_in_nI hw12 (by omega), by rw [ep]; exact vp_in_nI hp12 (by omega), ?_⟩
        rw [ep, pd_cl (n := p) (by omega)]
        by_cases dp : de p = true
        · have ezp : pd_tc th de a S p = 0 := if_pos ⟨dp, Or.inl hpS⟩
          have hdw : de w = true := edp.trans dp
          have ef : ((w :: R).filter (fun w => de w && decide (w ≠ a))) = w :: R.filter (fun w => de w && decide (w ≠ a)) := by
            rw [List.filter_cons_of_pos]
            rw [Bool.and_eq_true, decide_eq_true_iff]
            exact ⟨hdw, ea⟩
          rw [ef, List.length_cons] at h
          have hfl : (pd_fl (pd_tc th de a S) L).length ≤ 11 := Nat.le_trans (List.length_filter_le _ _) (pd_len11' H)
          refine br_t ezp (px_take hw12 hs hfl (fun c hc => (H.2.1 c (List.mem_filter.mp hc).1).2) (fun n1 st1 hs1 => nm_r (nI_1 m) (nm_r (nI_1 i) ?_)))
          have k := ih (w :: S) (i + 1) n (m + 1) n1 st1 htr.2 (by omega) (by omega) hpb.2 hR' hS' hnd' (by rw [pd_tcU hdw, pd_flU]; exact hs1) (fun fs' st' S' z1 z2 => by
            have y := h fs' st' S' (mm S' z1) z2
            rw [show m + ((R.filter (fun w => de w && decide (w ≠ a))).length + 1) = m + 1 + (R.filter (fun w => de w && decide (w ≠ a))).length by omega] at y
            exact y)
          rw [pd_tcU hdw, pd_ovu H.2.1 s1 hw12, pd_ovu H.2.1 s2 hw12, pd_ovu H.2.1 s3 hw12] at k
          exact k
        · have ezp : pd_tc th de a S p = th p := if_neg (fun z => dp z.1)
          refine br_f (by rw [ezp]; exact hth p hp) (nm_r (nI_1 i) (skip (fun z => ?_)))
          exact absurd (edp.symm.trans z) dp
theorem py_above {L : List Nat} {rk : Nat → Nat} {de : Nat → Bool} {a : Nat} (H : pd_BI a_there a_parents L rk) (ha : a ∈ L)
    (h0 : de 0 = false) (hd : ∀ c p, c ∈ L → (p = 0 ∨ p ∈ L) → a_parents c = nI p → de c = (decide (c = a) || de p)) {post : Int32 → Prop} :
    ∀ w, (w = 0 ∨ w ∈ L) → (de w = true → post 1) → (de w = false → post 0) → wpY_isAbove post (g_many, g_waiting, f_noteCount, f_over, f_pressed, f_focus, g_acted, a_there, a_kinds, (fun j => a_wishedPlaces (2 * j)), (fun j => a_wishedPlaces (2 * j + 1)), (fun j => a_wishedSizes (2 * j)), (fun j => a_wishedSizes (2 * j + 1)), a_colours, a_layouts, a_gaps, a_weights, (fun j => a_shifts (2 * j)), (fun j => a_shifts (2 * j + 1)), a_visible, a_enabled, a_on, a_values, a_parents, a_effects, a_targets, b_kids, b_kidCount, b_left, b_top, b_width, b_height, b_order, b_stack, a_pixels, b_events, a_notes) (nI a) (nI w) := by
  have ha12 := H.2.1 a ha
  refine pd_ind H _ ?_ ?_
  · intro _ k0
    refine ⟨2, ?_⟩
    rw [wY_isAbove_2]
    refine br_f (by decide) (br_f (fun z => by have := pd_im (a := 0) z (by omega) (by omega); omega) ⟨vp_in_nI (n := 0) (by omega) (by omega), nm_r (e' := -1) H.2.2.2.1 ?_⟩)
    rw [wY_isAbove_2]
    exact br_t (by decide) (br_f (pd_1ne (by omega)) (k0 h0))
  · intro c p hc hp ep ih k1 k0
    have hc12 := (H.2.1 c hc).2
    have e := hd c p hc hp ep
    by_cases ec : c = a
    · subst ec
      refine ⟨1, ?_⟩
      rw [wY_isAbove_2]
      exact br_f (nI_pos (by omega)) (br_t rfl (br_t rfl (k1 (by rw [e]; simp))))
    · rw [decide_eq_false ec, Bool.false_or] at e
      obtain ⟨n, hn⟩ := ih (fun z => k1 (e.trans z)) (fun z => k0 (e.trans z))
      refine ⟨n + 1, ?_⟩
      rw [wY_isAbove_2]
      exact br_f (nI_pos (by omega)) (br_f (fun z => ec (pd_im z (by omega) (by omega))) ⟨vp_in_nI hc12 (by omega), nm_r (e' := nI p) (by rw [pd_cl (by omega)]; exact ep) hn⟩)
theorem py_rem26 {post : Int32 → SY → Prop} {L : List Nat} {rk : Nat → Nat} {de : Nat → Bool} {a : Nat} (H : pd_BI a_there a_parents L rk) (ha : a ∈ L)
    (h0 : de 0 = false) (hd : ∀ c p, c ∈ L → (p = 0 ∨ p ∈ L) → a_parents c = nI p → de c = (decide (c = a) || de p))
    (h : ∀ g : Int32, (∀ l, l < 12 → bt g l = (decide (a_there l ≠ 0) && de l)) → ∃ n72, wY_remove_72 post (nI ((List.range 12).filter (fun w => decide (a_there w ≠ 0) && de w)).length) g g_many g_waiting f_noteCount f_over f_pressed f_focus g_acted n72 0 a_there a_kinds (fun j => a_wishedPlaces (2 * j)) (fun j => a_wishedPlaces (2 * j + 1)) (fun j => a_wishedSizes (2 * j)) (fun j => a_wishedSizes (2 * j + 1)) a_colours a_layouts a_gaps a_weights (fun j => a_shifts (2 * j)) (fun j => a_shifts (2 * j + 1)) a_visible a_enabled a_on a_values a_parents a_effects a_targets b_kids b_kidCount b_left b_top b_width b_height b_order b_stack a_pixels b_events a_notes) :
    ∀ (d j m : Nat) (g : Int32), j + d = 12 → m = ((List.range j).filter (fun w => decide (a_there w ≠ 0) && de w)).length → (∀ l, l < 12 → bt g l = (decide (l < j) && (decide (a_there l ≠ 0) && de l))) →
      wY_remove_26 post (nI a) g_many g_waiting f_noteCount f_over f_pressed f_focus g_acted a_there a_kinds (fun j => a_wishedPlaces (2 * j)) (fun j => a_wishedPlaces (2 * j + 1)) (fun j => a_wishedSizes (2 * j)) (fun j => a_wishedSizes (2 * j + 1)) a_colours a_layouts a_gaps a_weights (fun j => a_shifts (2 * j)) (fun j => a_shifts (2 * j + 1)) a_visible a_enabled a_on a_values a_parents a_effects a_targets b_kids b_kidCount b_left b_top b_width b_height b_order b_stack a_pixels b_events a_notes (d + 1) (nI m) g (nI j) := by
  intro d
  induction d with
  | zero =>
    intro j m g hj hm hg
    have e : j = 12 := hj
    subst e hm
    rw [wY_remove_26]
    refine br_t (nI_le (a := 12) (by omega) (by omega)) (h g (fun l hl => ?_))
    rw [hg l hl, decide_eq_true hl, Bool.true_and]
  | succ d ih =>
    intro j m g hj hm hg
    have er : (List.range (j + 1)).filter (fun w => decide (a_there w ≠ 0) && de w) = (List.range j).filter (fun w => decide (a_there w ≠ 0) && de w) ++ [j].filter (fun w => decide (a_there w ≠ 0) && de w) := by
      rw [List.range_succ, List.filter_append]
    rw [wY_remove_26]
    refine br_f (nI_ge (b := 12) (by omega) (by omega)) ⟨vp_in_nI (by omega) (by omega), ?_⟩
    rw [pd_cl (n := j) (by omega)]
    have skip : (decide (a_there j ≠ 0) && de j) = false → wY_remove_26 post (nI a) g_many g_waiting f_noteCount f_over f_pressed f_focus g_acted a_there a_kinds (fun j => a_wishedPlaces (2 * j)) (fun j => a_wishedPlaces (2 * j + 1)) (fun j => a_wishedSizes (2 * j)) (fun j => a_wishedSizes (2 * j + 1)) a_colours a_layouts a_gaps a_weights (fun j => a_shifts (2 * j)) (fun j => a_shifts (2 * j + 1)) a_visible a_enabled a_on a_values a_parents a_effects a_targets b_kids b_kidCount b_left b_top b_width b_height b_order b_stack a_pixels b_events a_notes (d + 1) (nI m) g (nI (j + 1)) := by
      intro hz
      refine ih (j + 1) m g (by omega) ?_ (fun l hl => ?_)
      · rw [er, List.filter_cons_of_neg (by rw [hz]; decide), List.filter_nil, List.append_nil]; exact hm
      · rw [hg l hl]
        by_cases e : l = j
        · rw [e, hz]; simp
        · have : l < j ↔ l < j + 1 := by omega
          simp only [this]
    by_cases c : a_there j = 0
    · exact br_t c (nm_r (nI_1 j) (skip (by simp [c])))
    · have hjL := (H.2.2.1 j (by omega)).mp c
      refine br_f c (py_above H ha h0 hd j hjL (fun z => ?_) (fun z => br_t rfl (nm_r (nI_1 j) (skip (by rw [z, Bool.and_false])))))
      refine br_f (by decide) (nm_r (nI_1 m) (nm_e (nm_r (nI_1 j) (ih (j + 1) (m + 1) _ (by omega) ?_ (fun l hl => ?_)))))
      · rw [er, List.filter_cons_of_pos (by rw [z, decide_eq_true c]; rfl), List.filter_nil, List.length_append, List.length_singleton, ← hm]
      · rw [pd_btS g (by omega) (by omega), hg l hl]
        by_cases e : l = j
        · rw [e, z, decide_eq_true c]; simp
        · have : l < j ↔ l < j + 1 := by omega
          simp only [this, decide_eq_false e, Bool.or_false]
theorem py_rem72 {post : Int32 → SY → Prop} {m : Int32} {g : Int32} {L : List Nat} {th : Nat → Int32} (hL : ∀ w, w ∈ L → 0 < w ∧ w < 12) (s1 : pd_SP L f_over) (s2 : pd_SP L f_pressed) (s3 : pd_SP L f_focus) (T : Nat → Int32) (hT : ∀ l, l < 12 → T l = if bt g l = true then 0 else th l)
    (h : post m (g_many, g_waiting, f_noteCount, pd_ovf (pd_Z T th 12) f_over, pd_ovf (pd_Z T th 12) f_pressed, pd_ovf (pd_Z T th 12) f_focus, g_acted, pd_Z T th 12, a_kinds, (fun j => a_wishedPlaces (2 * j)), (fun j => a_wishedPlaces (2 * j + 1)), (fun j => a_wishedSizes (2 * j)), (fun j => a_wishedSizes (2 * j + 1)), a_colours, a_layouts, a_gaps, a_weights, (fun j => a_shifts (2 * j)), (fun j => a_shifts (2 * j + 1)), a_visible, a_enabled, a_on, a_values, a_parents, a_effects, a_targets, b_kids, b_kidCount, b_left, b_top, b_width, b_height, b_order, b_stack, a_pixels, b_events, a_notes)) :
    ∀ (d j : Nat), j + d = 12 → wY_remove_72 post m g g_many g_waiting f_noteCount f_over f_pressed f_focus g_acted (d + 1) (nI j) (pd_Z T th j) a_kinds (fun j => a_wishedPlaces (2 * j)) (fun j => a_wishedPlaces (2 * j + 1)) (fun j => a_wishedSizes (2 * j)) (fun j => a_wishedSizes (2 * j + 1)) a_colours a_layouts a_gaps a_weights (fun j => a_shifts (2 * j)) (fun j => a_shifts (2 * j + 1)) a_visible a_enabled a_on a_values a_parents a_effects a_targets b_kids b_kidCount b_left b_top b_width b_height b_order b_stack a_pixels b_events a_notes := by
  have sp : ∀ x, pd_SP L x → (x < 0 ∧ pd_ovf (pd_Z T th 12) x = x) ∨ (¬ x < 0 ∧ vp_in x 12 ∧ (pd_Z T th 12 x.toNatClampNeg = 0 → pd_ovf (pd_Z T th 12) x = -1) ∧ (¬ pd_Z T th 12 x.toNatClampNeg = 0 → pd_ovf (pd_Z T th 12) x = x)) := by
    intro x hx
    rcases hx with e | ⟨w, hw, e⟩
    · refine Or.inl ⟨by rw [e]; decide, ?_⟩
      rw [e]; exact if_pos rfl
    · have hw12 := pd_12lt hL hw
      subst e
      have n1 : ¬ nI w = -1 := pd_ne1 (by omega)
      refine Or.inr ⟨nI_pos (by omega), vp_in_nI hw12 (by omega), fun z => ?_, fun z => ?_⟩
      · unfold pd_ovf; rw [if_neg n1, if_pos z]
      · unfold pd_ovf; rw [if_neg n1, if_neg z]
  intro d
  induction d with
  | zero =>
    intro j hj
    have e : j = 12 := hj
    subst e
    rw [wY_remove_72]
    refine br_t (nI_le (a := 12) (by omega) (by omega)) ?_
    have f150 : wY_remove_150 post m g_many g_waiting f_noteCount (pd_ovf (pd_Z T th 12) f_over) (pd_ovf (pd_Z T th 12) f_pressed) f_focus g_acted (pd_Z T th 12) a_kinds (fun j => a_wishedPlaces (2 * j)) (fun j => a_wishedPlaces (2 * j + 1)) (fun j => a_wishedSizes (2 * j)) (fun j => a_wishedSizes (2 * j + 1)) a_colours a_layouts a_gaps a_weights (fun j => a_shifts (2 * j)) (fun j => a_shifts (2 * j + 1)) a_visible a_enabled a_on a_values a_parents a_effects a_targets b_kids b_kidCount b_left b_top b_width b_height b_order b_stack a_pixels b_events a_notes := by
      rcases sp f_focus s3 with ⟨c, e⟩ | ⟨c, v, e1, e2⟩
      · rw [e] at h; exact br_t c h
      · by_cases z : pd_Z T th 12 f_focus.toNatClampNeg = 0
        · rw [e1 z] at h; exact br_f c ⟨v, br_t z h⟩
        · rw [e2 z] at h; exact br_f c ⟨v, br_f z h⟩
    have f126 : wY_remove_126 post m g_many g_waiting f_noteCount (pd_ovf (pd_Z T th 12) f_over) f_pressed f_focus g_acted (pd_Z T th 12) a_kinds (fun j => a_wishedPlaces (2 * j)) (fun j => a_wishedPlaces (2 * j + 1)) (fun j => a_wishedSizes (2 * j)) (fun j => a_wishedSizes (2 * j + 1)) a_colours a_layouts a_gaps a_weights (fun j => a_shifts (2 * j)) (fun j => a_shifts (2 * j + 1)) a_visible a_enabled a_on a_values a_parents a_effects a_targets b_kids b_kidCount b_left b_top b_width b_height b_order b_stack a_pixels b_events a_notes := by
      rcases sp f_pressed s2 with ⟨c, e⟩ | ⟨c, v, e1, e2⟩
      · rw [e] at f150; exact br_t c f150
      · by_cases z : pd_Z T th 12 f_pressed.toNatClampNeg = 0
        · rw [e1 z] at f150; exact br_f c ⟨v, br_t z f150⟩
        · rw [e2 z] at f150; exact br_f c ⟨v, br_f z f150⟩
    rcases sp f_over s1 with ⟨c, e⟩ | ⟨c, v, e1, e2⟩
    · rw [e] at f126; exact br_t c f126
    · by_cases z : pd_Z T th 12 f_over.toNatClampNeg = 0
      · rw [e1 z] at f126; exact br_f c ⟨v, br_t z f126⟩
      · rw [e2 z] at f126; exact br_f c ⟨v, br_f z f126⟩
  | succ d ih =>
    intro j hj
    rw [wY_remove_72]
    refine br_f (nI_ge (b := 12) (by omega) (by omega)) ?_
    have k := ih (j + 1) (by omega)
    by_cases c : bt g j = false
    · refine br_t ((pd_bt0 g (by omega)).mpr c) (nm_r (nI_1 j) ?_)
      rw [← pd_Z2 (by rw [hT j (by omega), c]; rfl)] at k
      exact k
    · have c' : bt g j = true := by
        cases z : bt g j with
        | true => rfl
        | false => exact absurd z c
      refine br_f (fun z => c ((pd_bt0 g (by omega)).mp z)) ⟨vp_in_nI (by omega) (by omega), nm_r (e' := pd_Z T th (j + 1)) ?_ (nm_r (nI_1 j) k)⟩
      rw [pd_cl (by omega), pd_b0, ← pd_Z1, hT j (by omega), c']
      rfl
end PDT
