theorem pd_SPm {L : List Nat} {x : Int32} {w : Nat} (h : pd_SP L x) : pd_SP (L ++ [w]) x :=
  h.imp id (fun ⟨v, hv, e⟩ => ⟨v, hv.imp id (fun z => List.mem_append_left _ z), e⟩)
theorem pd_KDn {pa pa' kc ki : Nat → Int32} {L : List Nat} {w p : Nat} (hl : L.length ≤ 11) (hp : p = 0 ∨ p ∈ L) (hpw : p ≠ w) (hwL : w ∉ L) (hw0 : 0 < w) (hK : pd_KD pa kc ki L)
    (h1 : ∀ q, (q = 0 ∨ q ∈ L) → q ≠ p → pd_kd pa' (L ++ [w]) q = pd_kd pa L q) (h2 : pd_kd pa' (L ++ [w]) p = pd_kd pa L p ++ [w]) (h3 : pd_kd pa' (L ++ [w]) w = []) :
    pd_KD pa' (upd (upd kc w 0) p (nI ((pd_kd pa L p).length + 1))) (upd ki (12 * p + (pd_kd pa L p).length) (nI w)) (L ++ [w]) := by
  have hKl : ∀ q, (pd_kd pa L q).length ≤ 11 := fun q => Nat.le_trans (List.length_filter_le _ _) hl
  intro q hq
  by_cases e : q = p
  · subst e
    rw [pd_us, h2, List.length_append, List.length_singleton]
    refine ⟨rfl, (pd_sg_a _ [w] _).mpr ⟨pd_sg_c _ _ (hK q hp).2 (fun j _ hj => pd_un (by omega)), pd_us, trivial⟩⟩
  · rw [pd_un e]
    by_cases ew : q = w
    · subst ew
      rw [pd_us, h3]
      exact ⟨nI_0.symm, trivial⟩
    · have hqL : q = 0 ∨ q ∈ L := hq.imp id (fun z => by
        cases List.mem_append.mp z with
        | inl z => exact z
        | inr z => exact absurd (by simpa using z) ew)
      rw [pd_un ew, h1 q hqL e]
      have := hKl q
      have := hKl p
      exact ⟨(hK q hqL).1, pd_sg_c _ _ (hK q hqL).2 (fun j h4 h5 => pd_un (by omega))⟩
theorem i_vc_make {k : Nat} {u : SX} {v : SY} (I : i_Rel k u v) (hk : k + 8 ≤ 4096) (v1 : Int32) (v2 : Int32) (v3 : Int32) (v4 : Int32) (v5 : Int32) (v6 : Int32) (v7 : Int32) : wpX_make (fun r u' => wpY_make (fun r' v' => r' = r ∧ i_Rel (k + 8) u' v') v v1 v2 v3 v4 v5 v6 v7) u v1 v2 v3 v4 v5 v6 v7 := by
  have I' : i_Rel (k + 8) u v := I
  obtain ⟨L, rk, M, D⟩ := I
  obtain ⟨f_stacked, f_treeSize, f_over, f_pressed, f_focus, f_waiting, f_noteCount, a_there, a_parents, a_kinds, a_colours, a_weights, a_gaps, a_layouts, a_values, a_effects, a_targets, a_visible, a_enabled, a_on, a_wishedPlaces, a_wishedSizes, a_shifts, a_stack, a_tree, a_seen, a_able, a_places, a_sizes, a_clipStarts, a_clipEnds, a_eventKinds, a_eventXs, a_eventYs, a_notes, a_pixels⟩ := u
  obtain ⟨g_many, g_waiting, g_acted, b_kids, b_kidCount, b_left, b_top, b_width, b_height, b_order, b_stack, b_events, rfl, hB, hS, hK, hV, ho, hpr, hf, hq⟩ := M
  unfold wpX_make
  refine px_is ?_
  by_cases c1 : pd_is a_there v1 = 0
  · refine br_t c1 ?_
    unfold wpY_make
    exact py_is (br_t c1 ⟨rfl, I'⟩)
  · refine br_f c1 (px_wi ?_)
    by_cases c2 : pd_wi v2 0 3 = 0
    · refine br_t c2 ?_
      unfold wpY_make
      exact py_is (br_f c1 (py_wi (br_t c2 ⟨rfl, I'⟩)))
    · refine br_f c2 (px_wh ?_)
      by_cases c3 : pd_wh v3 v4 v5 v6 = 0
      · refine br_t c3 ?_
        unfold wpY_make
        exact py_is (br_f c1 (py_wi (br_f c2 (py_wh (br_t c3 ⟨rfl, I'⟩)))))
      · refine br_f c3 (px_wi ?_)
        by_cases c4 : pd_wi v7 0 15 = 0
        · refine br_t c4 ?_
          unfold wpY_make
          exact py_is (br_f c1 (py_wi (br_f c2 (py_wh (br_f c3 (py_wi (br_t c4 ⟨rfl, I'⟩)))))))
        · refine br_f c4 ⟨13, px_lf2 12 0 rfl ?_⟩
          obtain ⟨_, b2, b3⟩ := pd_lfB a_there 12 0
          by_cases e12 : pd_lf a_there 12 0 = 12
          · rw [if_pos e12]
            refine br_t rfl ?_
            unfold wpY_make
            exact py_is (br_f c1 (py_wi (br_f c2 (py_wh (br_f c3 (py_wi (br_f c4 ⟨13, py_lf46 12 0 rfl (by rw [e12]; exact br_t rfl ⟨rfl, I'⟩)⟩)))))))
          · rw [if_neg e12]
            have hw : pd_lf a_there 12 0 < 12 := by omega
            have ht := b3 (by omega)
            generalize ew : pd_lf a_there 12 0 = w at hw ht e12
            obtain ⟨p, hp, rfl, htp⟩ := pd_is1 c1
            obtain ⟨hB', hwL, hw0, hpL, hpw, k1, k2, k3⟩ := pd_BIn hB hw ht hp htp
            have hL := pd_len11' hB
            have hV' : pd_VA (upd (upd a_wishedPlaces (2 * w) v3) (2 * w + 1) v4) (upd (upd a_wishedSizes (2 * w) v5) (2 * w + 1) v6) (upd a_weights w 0) (upd a_layouts w 0) (upd a_targets w 0) (upd (upd a_shifts (2 * w) 0) (2 * w + 1) 0) := by
              refine ⟨?_, pd_uP (P := fun x => ∃ k, k ≤ 3 ∧ x = nI k) hV.2.1 ⟨0, by omega, nI_0.symm⟩, pd_uP (P := fun x => ∃ k, k ≤ 2 ∧ x = nI k) hV.2.2.1 ⟨0, by omega, nI_0.symm⟩, pd_uP (P := fun x => ∃ k, k < 12 ∧ x = nI k) hV.2.2.2.1 ⟨0, by omega, nI_0.symm⟩, pd_uP (P := fun x => x ≤ 20) (pd_uP (P := fun x => x ≤ 20) hV.2.2.2.2 (by decide)) (by decide)⟩
              rw [pd_un (by omega), pd_un (by omega), pd_un (by omega), pd_un (by omega), pd_un (by omega), pd_un (by omega), pd_un (by omega), pd_un (by omega)]
              exact hV.1
            refine br_f (pd_ne1 (by omega)) (px_begin hw (px_setw hw (px_puth hS hL (fun n st hS' => px_settle hB' hS' hV' (fun tn tr se ab pl sz cs ce hD => ?_)))))
            unfold wpY_make
            refine py_is (br_f c1 (py_wi (br_f c2 (py_wh (br_f c3 (py_wi (br_f c4 ⟨13, py_lf46 12 0 rfl ?_⟩)))))))
            rw [ew]
            have vw : vp_in (nI w) 12 := vp_in_nI hw (by omega)
            have cw : (nI w).toNatClampNeg = w := pd_cl (by omega)
            have vp : vp_in (nI p) 12 := vp_in_nI hp (by omega)
            have cp : (nI p).toNatClampNeg = p := pd_cl (by omega)
            obtain ⟨kc, ks⟩ := hK p hpL
            have hKl : (pd_kd a_parents L p).length ≤ 11 := Nat.le_trans (List.length_filter_le _ _) hL
            refine br_f (fun z => by have := pd_im (b := 12) z (by omega) (by omega); omega) ⟨vw, nm_r (e' := upd a_there w 1) (by rw [cw, pd_b1]) (py_beginR (a_there := upd a_there w 1) hw (py_placeR hw ?_))⟩
            refine ⟨vw, nm_r (e' := upd a_parents w (nI p)) (by rw [cw]) ⟨vp, vp, nm_r (e' := upd (upd b_kidCount w 0) p (nI ((pd_kd a_parents L p).length + 1))) (by rw [cp, pd_un hpw, kc, nI_1]) ?_⟩⟩
            have e5 : 12 * nI p + upd b_kidCount w 0 (nI p).toNatClampNeg = nI (12 * p + (pd_kd a_parents L p).length) := by rw [cp, pd_un hpw, kc, pd_12b]
            refine ⟨by rw [e5]; exact vp_in_nI (by omega) (by omega), nm_r (e' := upd b_kids (12 * p + (pd_kd a_parents L p).length) (nI w)) (by rw [e5, pd_cl (by omega)]) ⟨rfl, ?_⟩⟩
            exact pd_mk hB' hS' (pd_KDn hL hpL hpw hwL hw0 hK k1 k2 k3) hV' (pd_SPm ho) (pd_SPm hpr) (pd_SPm hf) hq hD
theorem pd_u0 (w : Nat) : upd (fun _ => 0) w 0 = fun _ => 0 := by
  funext j
  by_cases e : j = w
  · subst e; exact pd_us
  · exact pd_un e
theorem i_vc0 : wpX_init (fun u => wpY_init (fun v => i_Rel 0 u v)) := by
  have hB : pd_BI (upd (fun _ => 0) 0 1) (upd (fun _ => 0) 0 (-1)) [] (fun _ => 0) := by
    refine ⟨by simp, (fun w hw => by cases hw), fun w _ => ?_, pd_us, (fun w hw => by cases hw)⟩
    by_cases e : w = 0
    · subst e; rw [pd_us]; exact ⟨fun _ => Or.inl rfl, fun _ => by decide⟩
    · rw [pd_un e]
      exact ⟨fun z => absurd rfl z, fun z => z.elim (fun y => absurd y e) (fun y => by cases y)⟩
  have hS : pd_ST 0 (fun _ => 0) [] := ⟨nI_0.symm, trivial⟩
  have hV : pd_VA (upd (upd (fun _ => 0) (2 * 0) 0) (2 * 0 + 1) 0) (upd (upd (fun _ => 0) (2 * 0) 32) (2 * 0 + 1) 16) (upd (fun _ => 0) 0 0) (upd (fun _ => 0) 0 0) (upd (fun _ => 0) 0 0) (upd (upd (fun _ => 0) (2 * 0) 0) (2 * 0 + 1) 0) := by
    refine ⟨⟨rfl, rfl, rfl, rfl⟩, fun c _ => ⟨0, by omega, ?_⟩, fun c _ => ⟨0, by omega, ?_⟩, fun c _ => ⟨0, by omega, ?_⟩, pd_uP (P := fun x => x ≤ 20) (pd_uP (P := fun x => x ≤ 20) (fun c _ => by decide) (by decide)) (by decide)⟩
    · rw [pd_u0]; exact nI_0.symm
    · rw [pd_u0]; exact nI_0.symm
    · rw [pd_u0]; exact nI_0.symm
  have hSP : pd_SP [] (-1) := Or.inl rfl
  unfold wpX_init
  refine px_begin (w := 0) (by omega) (px_setw (w := 0) (by omega) (px_settle hB hS hV (fun tn tr se ab pl sz cs ce hD => ?_)))
  unfold wpY_init
  refine nm_r (e' := upd (fun _ => 0) 0 1) (by rw [pd_b1]) (py_begin (w := 0) (by omega) (nm_e (nm_e (nm_e ?_))))
  refine ⟨[], fun _ => 0, ⟨0, 0, 0, (fun _ => 0), upd (fun _ => 0) 0 0, (fun _ => 0), (fun _ => 0), (fun _ => 0), (fun _ => 0), (fun _ => 0), (fun _ => 0), (fun _ => 0), ?_, hB, hS, ?_, hV, hSP, hSP, hSP, ⟨0, by omega, nI_0.symm, nI_0.symm, fun i hi => by omega⟩⟩, hD⟩
  · rw [pd_ev (fun _ => 0) 0 0 0, pd_od (fun _ => 0) 0 0 0, pd_ev (fun _ => 0) 0 32 16, pd_od (fun _ => 0) 0 32 16]
    simp only [pd_u0]
  · intro p hp
    have : p = 0 := hp.elim id (fun z => by cases z)
    subst this
    exact ⟨nI_0.symm, trivial⟩
