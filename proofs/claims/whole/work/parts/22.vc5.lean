theorem pd_ovI {th pa : Nat → Int32} {L : List Nat} {rk : Nat → Nat} (H : pd_BI th pa L rk) {o : Int32} (h : pd_SP L o) : pd_ovf th o = o := by
  unfold pd_ovf
  rcases h with e | ⟨w, hw, e⟩
  · rw [if_pos e, e]
  · have hw12 := pd_12lt H.2.1 hw
    subst e
    rw [if_neg (pd_ne1 (by omega)), pd_cl (by omega), if_neg ((H.2.2.1 w hw12).mpr hw)]
theorem pd_ovS {th pa : Nat → Int32} {L L0 : List Nat} {rk : Nat → Nat} (H : pd_BI th pa L rk) (hL0 : ∀ w, w ∈ L0 → 0 < w ∧ w < 12) {o : Int32} (h : pd_SP L0 o) : pd_SP L (pd_ovf th o) := by
  unfold pd_ovf
  rcases h with e | ⟨w, hw, e⟩
  · rw [if_pos e]; exact Or.inl rfl
  · have hw12 := pd_12lt hL0 hw
    subst e
    rw [if_neg (pd_ne1 (by omega)), pd_cl (by omega)]
    by_cases z : th w = 0
    · rw [if_pos z]; exact Or.inl rfl
    · rw [if_neg z]; exact Or.inr ⟨w, (H.2.2.1 w hw12).mp z, rfl⟩
theorem i_vc_remove {k : Nat} {u : SX} {v : SY} (I : i_Rel k u v) (hk : k + 8 ≤ 4096) (v1 : Int32) : wpX_remove (fun r u' => wpY_remove (fun r' v' => r' = r ∧ i_Rel (k + 8) u' v') v v1) u v1 := by
  have I' : i_Rel (k + 8) u v := I
  obtain ⟨L, rk, M, D⟩ := I
  obtain ⟨f_stacked, f_treeSize, f_over, f_pressed, f_focus, f_waiting, f_noteCount, a_there, a_parents, a_kinds, a_colours, a_weights, a_gaps, a_layouts, a_values, a_effects, a_targets, a_visible, a_enabled, a_on, a_wishedPlaces, a_wishedSizes, a_shifts, a_stack, a_tree, a_seen, a_able, a_places, a_sizes, a_clipStarts, a_clipEnds, a_eventKinds, a_eventXs, a_eventYs, a_notes, a_pixels⟩ := u
  obtain ⟨g_many, g_waiting, g_acted, b_kids, b_kidCount, b_left, b_top, b_width, b_height, b_order, b_stack, b_events, rfl, hB, hS, hK, hV, ho, hpr, hf, hq⟩ := M
  obtain ⟨G, hG, htn, htr, hDA⟩ := D
  unfold wpX_remove
  refine px_is ?_
  by_cases c1 : pd_is a_there v1 = 0
  · refine br_t c1 ?_
    unfold wpY_remove
    exact py_is (br_t c1 ⟨rfl, I'⟩)
  · refine br_f c1 ?_
    by_cases c2 : v1 = 0
    · refine br_t c2 ?_
      unfold wpY_remove
      exact py_is (br_f c1 (br_t c2 ⟨rfl, I'⟩))
    · obtain ⟨a, ha, rfl, ht⟩ := pd_is1 c1
      have ha0 : 0 < a := Nat.pos_of_ne_zero fun z => c2 (by rw [z]; exact nI_0)
      have haL : a ∈ L := ((hB.2.2.1 a ha).mp ht).resolve_left (by omega)
      have hL := pd_len11' hB
      have hc : ∀ c, c ∈ L → c < 12 := fun c hc => (hB.2.1 c hc).2
      have hO := pd_ordW hB
      have hOl := pd_ordL hB
      have hON := pd_ordN hB
      obtain ⟨de, hd0, hd⟩ := pd_rec hB false (fun b _ c => decide (c = a) || b)
      have hth : ∀ w, (w = 0 ∨ w ∈ L) → a_there w ≠ 0 := fun w hw => (hB.2.2.1 w (pd_12lt hB.2.1 hw)).mpr hw
      have hda : de a = true := by
        obtain ⟨p, hp, ep, _⟩ := hB.2.2.2.2 a haL
        rw [hd a p haL hp ep]; simp
      have e0 : pd_tc a_there de a [] = upd a_there a 0 := by
        funext w
        by_cases e : w = a
        · subst e; rw [pd_us]; exact if_pos ⟨hda, Or.inr rfl⟩
        · rw [pd_un e]; exact if_neg (fun z => z.2.elim (fun y => by cases y) e)
      have efl : pd_fl a_there L = L := by
        unfold pd_fl
        rw [List.filter_eq_self]
        intro w hw
        rw [decide_eq_true_iff]
        exact hth w (Or.inr hw)
      refine br_f c2 (px_take ha hS hL hc (fun n st hS1 => ⟨(pd_ord a_parents L).length + 1, ?_⟩))
      have ecount : 1 + ((pd_ord a_parents L).filter (fun w => de w && decide (w ≠ a))).length = ((List.range 12).filter (fun w => decide (a_there w ≠ 0) && de w)).length := by
        rw [← pd_cnt hB de]
        have e1 : (pd_ord a_parents L).filter (fun w => de w && decide (w ≠ a)) = pd_rm ((pd_ord a_parents L).filter de) a := by
          unfold pd_rm
          rw [List.filter_filter]
          apply List.filter_congr
          intro w _
          exact Bool.and_comm _ _
        rw [e1]
        have := pd_rmlen (L := (pd_ord a_parents L).filter de) (w := a) (List.Nodup.sublist List.filter_sublist hON) (List.mem_filter.mpr ⟨(pd_ordM hB a).mpr (Or.inr haL), hda⟩)
        omega
      have key := px_rem23 (post := fun r u' => wpY_remove (fun r' v' => r' = r ∧ i_Rel (k + 8) u' v') (g_many, g_waiting, f_noteCount, f_over, f_pressed, f_focus, g_acted, a_there, a_kinds, (fun j => a_wishedPlaces (2 * j)), (fun j => a_wishedPlaces (2 * j + 1)), (fun j => a_wishedSizes (2 * j)), (fun j => a_wishedSizes (2 * j + 1)), a_colours, a_layouts, a_gaps, a_weights, (fun j => a_shifts (2 * j)), (fun j => a_shifts (2 * j + 1)), a_visible, a_enabled, a_on, a_values, a_parents, a_effects, a_targets, b_kids, b_kidCount, b_left, b_top, b_width, b_height, b_order, b_stack, a_pixels, b_events, a_notes) (nI a)) (f_waiting := f_waiting) (f_noteCount := f_noteCount) (a_kinds := a_kinds) (a_colours := a_colours) (a_weights := a_weights) (a_gaps := a_gaps) (a_layouts := a_layouts) (a_values := a_values) (a_effects := a_effects) (a_targets := a_targets) (a_visible := a_visible) (a_enabled := a_enabled) (a_on := a_on) (a_wishedPlaces := a_wishedPlaces) (a_wishedSizes := a_wishedSizes) (a_shifts := a_shifts) (a_seen := a_seen) (a_able := a_able) (a_places := a_places) (a_sizes := a_sizes) (a_clipStarts := a_clipStarts) (a_clipEnds := a_clipEnds) (a_eventKinds := a_eventKinds) (a_eventXs := a_eventXs) (a_eventYs := a_eventYs) (a_notes := a_notes) (a_pixels := a_pixels)
        hB haL hOl hd0 hd ho hpr hf (pd_ord a_parents L) [] 0 ((pd_ord a_parents L).length + 1) 1 n st htr (by omega) (by omega) hO.2 (fun w hw => (pd_ordM hB w).mp hw) (fun w hw => by cases hw) (by rw [List.nil_append]; exact hON) (by rw [e0, pd_flU, efl]; exact hS1) (fun fs' st' S' hS' hst' => ?_)
      · rw [e0, pd_ovu hB.2.1 ho ha, pd_ovu hB.2.1 hpr ha, pd_ovu hB.2.1 hf ha, pd_ovI hB ho, pd_ovI hB hpr, pd_ovI hB hf, ← htn] at key
        exact key
      · have hS2 : ∀ w, w ∈ S' ↔ w = 0 ∨ w ∈ L := fun w => by
          rw [hS' w, pd_ordM hB w]
          exact ⟨fun z => z.elim (fun y => by cases y) id, Or.inr⟩
        have htc : ∀ w, w < 12 → (pd_tc a_there de a S' w ≠ 0 ↔ a_there w ≠ 0 ∧ de w = false) := by
          intro w hw
          unfold pd_tc
          by_cases cd : de w = true ∧ (w ∈ S' ∨ w = a)
          · rw [if_pos cd, cd.1]
            exact ⟨fun z => absurd rfl z, fun z => absurd z.2 (by decide)⟩
          · rw [if_neg cd]
            refine ⟨fun z => ⟨z, ?_⟩, fun z => z.1⟩
            cases y : de w with
            | false => rfl
            | true => exact absurd ⟨y, Or.inl ((hS2 w).mpr ((hB.2.2.1 w hw).mp z))⟩ cd
        obtain ⟨hB', hkd⟩ := pd_BId hB hd0 hd htc
        have efl' : pd_fl (pd_tc a_there de a S') L = L.filter (fun w => !de w) := by
          unfold pd_fl
          apply List.filter_congr
          intro w hw
          have := htc w (hc w hw)
          by_cases z : de w = true
          · rw [z]
            rw [decide_eq_false]
            · rfl
            · intro y
              rw [(this.mp y).2] at z
              exact absurd z (by decide)
          · have z' : de w = false := by
              cases y : de w with
              | false => rfl
              | true => exact absurd y z
            rw [z', decide_eq_true (this.mpr ⟨hth w (Or.inr hw), z'⟩)]
            rfl
        rw [efl'] at hst'
        refine px_settle hB' hst' hV (fun tn tr se ab pl sz cs ce hD => ?_)
        unfold wpY_remove
        obtain ⟨p, hp, ep, _⟩ := hB.2.2.2.2 a haL
        have hp12 := pd_12lt hB.2.1 hp
        have hKl : ∀ q, (pd_kd a_parents L q).length ≤ 11 := fun q => Nat.le_trans (List.length_filter_le _ _) hL
        obtain ⟨hk1, hk2⟩ := hK p hp
        refine py_is (br_f c1 (br_f c2 (py_take ha hp12 (by have := hKl p; omega) ep hk1 hk2 (fun c hc' => hc c (pd_mkd.mp hc').1) (fun ki s1 s2 => ⟨13, ?_⟩))))
        refine py_rem26 hB haL hd0 hd (fun g hg => ⟨13, ?_⟩) 12 0 0 0 rfl rfl (fun l _ => by rw [b_0]; simp)
        have hZ : pd_Z (fun l => if bt g l = true then 0 else a_there l) a_there 12 = pd_tc a_there de a S' := by
          funext w
          unfold pd_Z
          by_cases hw : w < 12
          · rw [if_pos hw]
            dsimp only
            rw [hg w hw]
            by_cases z : a_there w = 0
            · have y : ¬ pd_tc a_there de a S' w ≠ 0 := fun x => ((htc w hw).mp x).1 z
              rw [z, Classical.not_not.mp y]
              simp
            · by_cases y : de w = true
              · rw [y, decide_eq_true z]
                have x : ¬ pd_tc a_there de a S' w ≠ 0 := fun x => by
                  have := ((htc w hw).mp x).2
                  rw [y] at this
                  exact absurd this (by decide)
                rw [Classical.not_not.mp x]
                rfl
              · rw [if_neg (fun x => y (Bool.and_eq_true _ _ ▸ x).2)]
                exact (if_neg (fun x => y x.1)).symm
          · rw [if_neg hw]
            refine (if_neg (fun x => ?_)).symm
            have : w = 0 ∨ w ∈ L := x.2.elim (fun y => (hS2 w).mp y) (fun y => Or.inr (y ▸ haL))
            exact hw (pd_12lt hB.2.1 this)
        have fin := py_rem72 (post := fun r' v' => r' = nI (1 + ((pd_ord a_parents L).filter (fun w => de w && decide (w ≠ a))).length) ∧ i_Rel (k + 8) (fs', tn, pd_ovf (pd_tc a_there de a S') f_over, pd_ovf (pd_tc a_there de a S') f_pressed, pd_ovf (pd_tc a_there de a S') f_focus, f_waiting, f_noteCount, pd_tc a_there de a S', a_parents, a_kinds, a_colours, a_weights, a_gaps, a_layouts, a_values, a_effects, a_targets, a_visible, a_enabled, a_on, a_wishedPlaces, a_wishedSizes, a_shifts, st', tr, se, ab, pl, sz, cs, ce, a_eventKinds, a_eventXs, a_eventYs, a_notes, a_pixels) v')
          (m := nI ((List.range 12).filter (fun w => decide (a_there w ≠ 0) && de w)).length) (g := g) (th := a_there) (g_many := g_many) (g_waiting := g_waiting) (g_acted := g_acted) (f_noteCount := f_noteCount) (f_over := f_over) (f_pressed := f_pressed) (f_focus := f_focus) (a_kinds := a_kinds) (a_colours := a_colours) (a_weights := a_weights) (a_gaps := a_gaps) (a_layouts := a_layouts) (a_values := a_values) (a_effects := a_effects) (a_targets := a_targets) (a_visible := a_visible) (a_enabled := a_enabled) (a_on := a_on) (a_wishedPlaces := a_wishedPlaces) (a_wishedSizes := a_wishedSizes) (a_shifts := a_shifts) (a_parents := a_parents) (a_notes := a_notes) (a_pixels := a_pixels) (b_kids := ki) (b_kidCount := upd b_kidCount p (nI (pd_rm (pd_kd a_parents L p) a).length)) (b_left := b_left) (b_top := b_top) (b_width := b_width) (b_height := b_height) (b_order := b_order) (b_stack := b_stack) (b_events := b_events)
          hB.2.1 ho hpr hf (fun l => if bt g l = true then 0 else a_there l) (fun l _ => rfl) ?_ 12 0 rfl
        · rw [pd_Z0] at fin
          exact fin
        · rw [hZ]
          refine ⟨by rw [ecount], ?_⟩
          have hK' : pd_KD a_parents (upd b_kidCount p (nI (pd_rm (pd_kd a_parents L p) a).length)) ki (L.filter (fun w => !de w)) := by
            intro q hq'
            have hq2 : (q = 0 ∨ q ∈ L) ∧ de q = false := by
              rcases hq' with z | z
              · exact ⟨Or.inl z, z ▸ hd0⟩
              · rw [List.mem_filter] at z
                exact ⟨Or.inr z.1, by simpa using z.2⟩
            rw [hkd q hq2.1 hq2.2]
            by_cases e : q = p
            · subst e; rw [pd_us]; exact ⟨rfl, s1⟩
            · have hne : a ∉ pd_kd a_parents L q := fun z => e (pd_im ((pd_mkd.mp z).2.symm.trans ep) (by have := pd_12lt hB.2.1 hq2.1; omega) (by omega))
              rw [pd_un e, pd_rm0 hne]
              exact ⟨(hK q hq2.1).1, pd_KDf e (by have := hKl q; omega) s2 (hK q hq2.1).2⟩
          exact pd_mk hB' hst' hK' hV (pd_ovS hB' hB.2.1 ho) (pd_ovS hB' hB.2.1 hpr) (pd_ovS hB' hB.2.1 hf) hq hD
