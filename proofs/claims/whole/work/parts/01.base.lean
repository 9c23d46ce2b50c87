section PDA
/-! A: numbers, stores, truth values -/
theorem pd_us {f : Nat → Int32} {k : Nat} {x : Int32} : upd f k x k = x := if_pos rfl
theorem pd_un {f : Nat → Int32} {k j : Nat} {x : Int32} (h : j ≠ k) : upd f k x j = f j := if_neg h
theorem pd_uu {f : Nat → Int32} {k : Nat} {x y : Int32} : upd (upd f k x) k y = upd f k y := by
  funext j
  by_cases h : j = k
  · subst h; rw [pd_us, pd_us]
  · rw [pd_un h, pd_un h, pd_un h]
theorem pd_b0 : vp_nar .boolean 0 = 0 := by decide
theorem pd_b1 : vp_nar .boolean 1 = 1 := by decide
theorem pd_mul (a b : Nat) : nI a * nI b = nI (a * b) := (Int32.ofNat_mul a b).symm
theorem pd_2 (a : Nat) : 2 * nI a = nI (2 * a) := pd_mul 2 a
theorem pd_21 (a : Nat) : 2 * nI a + 1 = nI (2 * a + 1) := by rw [pd_2, nI_1]
theorem pd_22 (a b : Nat) : 2 * nI a + nI b = nI (2 * a + b) := by rw [pd_2, nI_add]
theorem pd_12 (a : Nat) : 12 * nI a = nI (12 * a) := pd_mul 12 a
theorem pd_12b (a b : Nat) : 12 * nI a + nI b = nI (12 * a + b) := by rw [pd_12, nI_add]
theorem pd_3 (a : Nat) : 3 * nI a = nI (3 * a) := pd_mul 3 a
theorem pd_m1 (n : Nat) : nI (n + 1) + (-1) = nI n := by
  rw [← nI_1, Int32.add_assoc, show (1 : Int32) + (-1) = 0 from rfl, Int32.add_zero]
theorem pd_m {n : Nat} (h : 0 < n) : nI n + (-1) = nI (n - 1) := by
  obtain ⟨m, rfl⟩ : ∃ m, n = m + 1 := ⟨n - 1, by omega⟩
  exact pd_m1 m
theorem pd_s {n : Nat} (h : 0 < n) : nI n - 1 = nI (n - 1) := by
  obtain ⟨m, rfl⟩ : ∃ m, n = m + 1 := ⟨n - 1, by omega⟩
  exact nI_pred m
theorem pd_sub {a b : Nat} (h : b ≤ a) : nI a - nI b = nI (a - b) := by
  obtain ⟨c, rfl⟩ : ∃ c, a = b + c := ⟨a - b, by omega⟩
  rw [← nI_add, show b + c - b = c by omega, Int32.add_comm, Int32.add_sub_cancel]
theorem pd_le0 {a : Nat} (h : a < 2 ^ 31) : nI a ≤ 0 ↔ a = 0 := by
  rw [← nI_0, nI_leI h (by omega)]; omega
theorem pd_eq0 {a : Nat} (h : a < 2 ^ 31) : nI a = 0 ↔ a = 0 := by
  rw [← nI_0, nI_eq h (by omega)]
theorem pd_ne1 {a : Nat} (h : a < 2 ^ 31) : ¬ nI a = -1 := by
  intro e
  have := nI_pos (n := a) h
  rw [e] at this
  exact this (by decide)
theorem pd_1ne {a : Nat} (h : a < 2 ^ 31) : ¬ (-1 : Int32) = nI a := fun e => pd_ne1 h e.symm
theorem pd_im {a b : Nat} (h : nI a = nI b) (ha : a < 2 ^ 31) (hb : b < 2 ^ 31) : a = b := (nI_eq ha hb).mp h
theorem pd_cl {n : Nat} (h : n < 2 ^ 31) : (nI n).toNatClampNeg = n := nI_clamp h
theorem pd_n0 {x : Int32} (h : ¬ x = 0) : x ≠ 0 := h
/-! a pair's array, seen by its first, by its second numbers -/
theorem pd_ev (f : Nat → Int32) (w : Nat) (x y : Int32) : (fun j => upd (upd f (2 * w) x) (2 * w + 1) y (2 * j)) = upd (fun j => f (2 * j)) w x := by
  funext j
  by_cases h : j = w
  · subst h; rw [pd_us, pd_un (by omega), pd_us]
  · rw [pd_un (by omega), pd_un (by omega), pd_un h]
theorem pd_od (f : Nat → Int32) (w : Nat) (x y : Int32) : (fun j => upd (upd f (2 * w) x) (2 * w + 1) y (2 * j + 1)) = upd (fun j => f (2 * j + 1)) w y := by
  funext j
  by_cases h : j = w
  · subst h; rw [pd_us, pd_us]
  · rw [pd_un (by omega), pd_un (by omega), pd_un h]
/-! B: a list in an array -/
def pd_sg (a : Nat → Int32) : Nat → List Nat → Prop
  | _, [] => True
  | i, w :: R => a i = nI w ∧ pd_sg a (i + 1) R
theorem pd_sg_c {a b : Nat → Int32} : ∀ (R : List Nat) (i : Nat), pd_sg a i R → (∀ j, i ≤ j → j < i + R.length → b j = a j) → pd_sg b i R
  | [], _, _, _ => trivial
  | w :: R, i, h, e => ⟨(e i (Nat.le_refl i) (by simp only [List.length_cons]; omega)).trans h.1, pd_sg_c R (i + 1) h.2 (fun j h1 h2 => e j (by omega) (by simp only [List.length_cons]; omega))⟩
theorem pd_sg_s {a b : Nat → Int32} : ∀ (R : List Nat) (i : Nat), pd_sg a i R → (∀ j, i ≤ j → j < i + R.length → b (j + 1) = a j) → pd_sg b (i + 1) R
  | [], _, _, _ => trivial
  | w :: R, i, h, e => ⟨(e i (Nat.le_refl i) (by simp only [List.length_cons]; omega)).trans h.1, pd_sg_s R (i + 1) h.2 (fun j h1 h2 => e j (by omega) (by simp only [List.length_cons]; omega))⟩
theorem pd_sg_a {a : Nat → Int32} : ∀ (A B : List Nat) (i : Nat), pd_sg a i (A ++ B) ↔ pd_sg a i A ∧ pd_sg a (i + A.length) B
  | [], B, i => ⟨fun h => ⟨trivial, h⟩, fun h => h.2⟩
  | w :: A, B, i => by
    have h := pd_sg_a (a := a) A B (i + 1)
    have e : i + (A.length + 1) = i + 1 + A.length := by omega
    simp only [List.cons_append, pd_sg, List.length_cons, h, and_assoc, e]
theorem pd_sg_g {a : Nat → Int32} : ∀ (R : List Nat) (i j : Nat) (h : j < R.length), pd_sg a i R → a (i + j) = nI R[j]
  | _ :: _, _, 0, _, s => s.1
  | w :: R, i, j + 1, h, s => by
    have e := pd_sg_g R (i + 1) j (by simp only [List.length_cons] at h; omega) s.2
    rw [show i + (j + 1) = i + 1 + j by omega]
    exact e
/-- one put in between: what lay behind moves by one -/
theorem pd_sg_i {a b : Nat → Int32} {A B : List Nat} {w : Nat} (h : pd_sg a 0 (A ++ B)) (h1 : ∀ j, j < A.length → b j = a j) (h2 : b A.length = nI w) (h3 : ∀ j, A.length ≤ j → j < A.length + B.length → b (j + 1) = a j) : pd_sg b 0 (A ++ w :: B) := by
  have hs := (pd_sg_a A B 0).mp h
  rw [Nat.zero_add] at hs
  refine (pd_sg_a A (w :: B) 0).mpr ⟨pd_sg_c A 0 hs.1 (fun j _ hj => h1 j (by omega)), ?_⟩
  rw [Nat.zero_add]
  exact ⟨h2, pd_sg_s B A.length hs.2 h3⟩
/-- one put behind -/
theorem pd_sg_e {a : Nat → Int32} {A : List Nat} {w : Nat} (h : pd_sg a 0 A) : pd_sg (upd a A.length (nI w)) 0 (A ++ [w]) := by
  refine (pd_sg_a A [w] 0).mpr ⟨pd_sg_c A 0 h (fun j _ hj => pd_un (by omega)), ?_⟩
  rw [Nat.zero_add]
  exact ⟨pd_us, trivial⟩
/-- a list whose top lies at the end of the array -/
def pd_rs (a : Nat → Int32) : List Nat → Prop
  | [] => True
  | w :: R => a R.length = nI w ∧ pd_rs a R
theorem pd_rs_c {a b : Nat → Int32} : ∀ R : List Nat, pd_rs a R → (∀ j, j < R.length → b j = a j) → pd_rs b R
  | [], _, _ => trivial
  | w :: R, h, e => ⟨(e _ (by simp only [List.length_cons]; omega)).trans h.1, pd_rs_c R h.2 (fun j hj => e j (by simp only [List.length_cons]; omega))⟩
theorem pd_rs_u {a : Nat → Int32} {R : List Nat} {w : Nat} (h : pd_rs a R) : pd_rs (upd a R.length (nI w)) (w :: R) :=
  ⟨pd_us, pd_rs_c R h (fun j hj => pd_un (by omega))⟩
/-! C: kids, the order of the tree -/
def pd_kd (pa : Nat → Int32) (L : List Nat) (p : Nat) : List Nat := L.filter (fun w => decide (pa w = nI p))
def pd_run (pa : Nat → Int32) (L : List Nat) : Nat → List Nat → List Nat → List Nat
  | 0, D, _ => D
  | _ + 1, D, [] => D
  | n + 1, D, w :: R => pd_run pa L n (D ++ [w]) (pd_kd pa L w ++ R)
def pd_ord (pa : Nat → Int32) (L : List Nat) : List Nat := pd_run pa L 12 [] [0]
/-- the tree's data: the stack's list, the parents, a rank that grows downwards -/
def pd_BI (th pa : Nat → Int32) (L : List Nat) (rk : Nat → Nat) : Prop :=
  L.Nodup ∧ (∀ w, w ∈ L → 0 < w ∧ w < 12) ∧ (∀ w, w < 12 → (th w ≠ 0 ↔ w = 0 ∨ w ∈ L)) ∧ pa 0 = -1 ∧
  (∀ w, w ∈ L → ∃ p, (p = 0 ∨ p ∈ L) ∧ pa w = nI p ∧ rk p < rk w)
theorem pd_12lt {L : List Nat} (h : ∀ w, w ∈ L → 0 < w ∧ w < 12) {w : Nat} (hw : w = 0 ∨ w ∈ L) : w < 12 := by
  cases hw with
  | inl h0 => omega
  | inr h1 => exact (h w h1).2
theorem pd_mkd {pa : Nat → Int32} {L : List Nat} {p c : Nat} : c ∈ pd_kd pa L p ↔ c ∈ L ∧ pa c = nI p := by
  unfold pd_kd
  rw [List.mem_filter, decide_eq_true_iff]
theorem pd_nkd {pa : Nat → Int32} {L : List Nat} {p : Nat} (h : L.Nodup) : (pd_kd pa L p).Nodup :=
  List.Nodup.sublist List.filter_sublist h
theorem pd_len12 {A : List Nat} (h : A.Nodup) (hA : ∀ w, w ∈ A → w < 12) : A.length ≤ 12 := by
  have := List.Nodup.length_le_of_subset (l₂ := List.range 12) h (fun w hw => List.mem_range.mpr (hA w hw))
  rwa [List.length_range] at this
theorem pd_len11 {A : List Nat} (h : A.Nodup) (hA : ∀ w, w ∈ A → 0 < w ∧ w < 12) : A.length ≤ 11 := by
  have h0 : (0 :: A).Nodup := List.nodup_cons.mpr ⟨fun z => by have := (hA 0 z).1; omega, h⟩
  have := pd_len12 h0 (fun w hw => by
    cases List.mem_cons.mp hw with
    | inl e => omega
    | inr e => exact (hA w e).2)
  rw [List.length_cons] at this
  omega
/-- the work in hand: done, to do -/
def pd_WL (pa : Nat → Int32) (L D T : List Nat) : Prop :=
  (D ++ T).Nodup ∧ (∀ w, w ∈ D ++ T → w = 0 ∨ w ∈ L) ∧ (∀ w, w ∈ D ++ T → w = 0 ∨ ∃ p, p ∈ D ∧ pa w = nI p) ∧
  (∀ p c, p ∈ D → c ∈ L → pa c = nI p → c ∈ D ++ T) ∧ 0 ∈ D ++ T
theorem pd_WL0 (pa : Nat → Int32) (L : List Nat) : pd_WL pa L [] [0] := by
  refine ⟨by decide, fun w hw => Or.inl (by simpa using hw), fun w hw => Or.inl (by simpa using hw), fun p c hp => ?_, by simp⟩
  cases hp
theorem pd_WLs {th pa : Nat → Int32} {L : List Nat} {rk : Nat → Nat} (H : pd_BI th pa L rk) {D R : List Nat} {w : Nat} (h : pd_WL pa L D (w :: R)) : pd_WL pa L (D ++ [w]) (pd_kd pa L w ++ R) := by
  obtain ⟨hN, hM, hP, hC, h0⟩ := h
  obtain ⟨bN, bL, _, b0, _⟩ := H
  have hw : w < 12 := pd_12lt bL (hM w (by simp))
  have hwD : w ∉ D := by
    intro z
    exact (List.nodup_append.mp hN).2.2 w z w (by simp) rfl
  have hK : ∀ c, c ∈ pd_kd pa L w → c ∉ D ++ w :: R := by
    intro c hc z
    obtain ⟨hcL, hcp⟩ := pd_mkd.mp hc
    cases hP c z with
    | inl e =>
      subst e
      rw [b0] at hcp
      exact pd_1ne (by omega) hcp
    | inr e =>
      obtain ⟨p, hp, ep⟩ := e
      have hp12 : p < 12 := pd_12lt bL (hM p (List.mem_append_left _ hp))
      have : p = w := pd_im (ep.symm.trans hcp) (by omega) (by omega)
      subst this
      exact hwD hp
  have hmem : ∀ x, x ∈ (D ++ [w]) ++ (pd_kd pa L w ++ R) ↔ x ∈ D ++ w :: R ∨ x ∈ pd_kd pa L w := by
    intro x
    simp only [List.mem_append, List.mem_cons, List.not_mem_nil, or_false]
    constructor
    · rintro ((h | h) | (h | h))
      · exact Or.inl (Or.inl h)
      · exact Or.inl (Or.inr (Or.inl h))
      · exact Or.inr h
      · exact Or.inl (Or.inr (Or.inr h))
    · rintro ((h | h | h) | h)
      · exact Or.inl (Or.inl h)
      · exact Or.inl (Or.inr h)
      · exact Or.inr (Or.inr h)
      · exact Or.inr (Or.inl h)
  refine ⟨?_, ?_, ?_, ?_, ?_⟩
  · obtain ⟨n1, n2, n3⟩ := List.nodup_append.mp hN
    obtain ⟨n4, n5⟩ := List.nodup_cons.mp n2
    refine List.nodup_append.mpr ⟨List.nodup_append.mpr ⟨n1, by simp, fun a ha b hb => ?_⟩, List.nodup_append.mpr ⟨pd_nkd bN, n5, fun a ha b hb e => ?_⟩, fun a ha b hb e => ?_⟩
    · have : b = w := by simpa using hb
      subst this
      exact fun e => hwD (e ▸ ha)
    · subst e
      exact hK a ha (by simp [hb])
    · subst e
      have ha' : a ∈ D ++ w :: R := by
        simp only [List.mem_append, List.mem_cons, List.not_mem_nil, or_false] at ha ⊢
        cases ha with
        | inl h => exact Or.inl h
        | inr h => exact Or.inr (Or.inl h)
      cases List.mem_append.mp hb with
      | inl h => exact hK a h ha'
      | inr h =>
        simp only [List.mem_append, List.mem_cons, List.not_mem_nil, or_false] at ha
        cases ha with
        | inl hD => exact n3 a hD a (List.mem_cons_of_mem _ h) rfl
        | inr ew => subst ew; exact n4 h
  · intro x hx
    cases (hmem x).mp hx with
    | inl h => exact hM x h
    | inr h => exact Or.inr (pd_mkd.mp h).1
  · intro x hx
    cases (hmem x).mp hx with
    | inl h =>
      cases hP x h with
      | inl e => exact Or.inl e
      | inr e =>
        obtain ⟨p, hp, ep⟩ := e
        exact Or.inr ⟨p, List.mem_append_left _ hp, ep⟩
    | inr h => exact Or.inr ⟨w, by simp, (pd_mkd.mp h).2⟩
  · intro p c hp hc e
    rw [hmem]
    cases List.mem_append.mp hp with
    | inl h => exact Or.inl (hC p c h hc e)
    | inr h =>
      have : p = w := by simpa using h
      subst this
      exact Or.inr (pd_mkd.mpr ⟨hc, e⟩)
  · exact (hmem 0).mpr (Or.inl h0)
theorem pd_WLlen {th pa : Nat → Int32} {L : List Nat} {rk : Nat → Nat} (H : pd_BI th pa L rk) {D T : List Nat} (h : pd_WL pa L D T) : D.length + T.length ≤ 12 := by
  have := pd_len12 h.1 (fun w hw => pd_12lt H.2.1 (h.2.1 w hw))
  rwa [List.length_append] at this
/-- each one's parent stands ahead of it -/
def pd_pb (pa : Nat → Int32) : List Nat → List Nat → Prop
  | _, [] => True
  | S, w :: R => (w = 0 ∨ ∃ p, p ∈ S ∧ pa w = nI p) ∧ pd_pb pa (w :: S) R
theorem pd_pb_e {pa : Nat → Int32} {w : Nat} : ∀ (D S : List Nat), pd_pb pa S D → (w = 0 ∨ ∃ p, (p ∈ D ∨ p ∈ S) ∧ pa w = nI p) → pd_pb pa S (D ++ [w])
  | [], S, _, h => ⟨h.imp id (fun ⟨p, hp, e⟩ => ⟨p, hp.elim (fun z => by cases z) id, e⟩), trivial⟩
  | d :: D, S, h, hw => ⟨h.1, pd_pb_e D (d :: S) h.2 (hw.imp id (fun ⟨p, hp, e⟩ => ⟨p, by
      cases hp with
      | inl z =>
        cases List.mem_cons.mp z with
        | inl y => exact Or.inr (by simp [y])
        | inr y => exact Or.inl y
      | inr z => exact Or.inr (List.mem_cons_of_mem _ z), e⟩))⟩
theorem pd_runW {th pa : Nat → Int32} {L : List Nat} {rk : Nat → Nat} (H : pd_BI th pa L rk) : ∀ (n : Nat) (D T : List Nat), n + D.length = 12 → pd_WL pa L D T → pd_pb pa [] D → pd_WL pa L (pd_run pa L n D T) [] ∧ pd_pb pa [] (pd_run pa L n D T)
  | 0, D, T, hn, h, hb => by
    have := pd_WLlen H h
    have e : T = [] := List.length_eq_zero_iff.mp (by omega)
    subst e
    exact ⟨h, hb⟩
  | n + 1, D, [], _, h, hb => ⟨h, hb⟩
  | n + 1, D, w :: R, hn, h, hb => by
    refine pd_runW H n (D ++ [w]) (pd_kd pa L w ++ R) (by rw [List.length_append, List.length_singleton]; omega) (pd_WLs H h) (pd_pb_e D [] hb ?_)
    exact (h.2.2.1 w (by simp)).imp id (fun ⟨p, hp, e⟩ => ⟨p, Or.inl hp, e⟩)
theorem pd_ordW {th pa : Nat → Int32} {L : List Nat} {rk : Nat → Nat} (H : pd_BI th pa L rk) : pd_WL pa L (pd_ord pa L) [] ∧ pd_pb pa [] (pd_ord pa L) :=
  pd_runW H 12 [] [0] rfl (pd_WL0 pa L) trivial
theorem pd_ordN {th pa : Nat → Int32} {L : List Nat} {rk : Nat → Nat} (H : pd_BI th pa L rk) : (pd_ord pa L).Nodup := by
  have := (pd_ordW H).1.1
  rwa [List.append_nil] at this
theorem pd_ordM {th pa : Nat → Int32} {L : List Nat} {rk : Nat → Nat} (H : pd_BI th pa L rk) (w : Nat) : w ∈ pd_ord pa L ↔ w = 0 ∨ w ∈ L := by
  have hW := (pd_ordW H).1
  simp only [pd_WL, List.append_nil] at hW
  obtain ⟨_, hM, _, hC, h0⟩ := hW
  refine ⟨hM w, fun h => ?_⟩
  have key : ∀ (n w : Nat), rk w < n → (w = 0 ∨ w ∈ L) → w ∈ pd_ord pa L := by
    intro n
    induction n with
    | zero => intro w hn _; omega
    | succ n ih =>
      intro w hn hw
      cases hw with
      | inl e => subst e; exact h0
      | inr e =>
        obtain ⟨p, hp, ep, hr⟩ := H.2.2.2.2 w e
        exact hC p w (ih p (by omega) hp) e ep
  exact key (rk w + 1) w (by omega) h
theorem pd_ordL {th pa : Nat → Int32} {L : List Nat} {rk : Nat → Nat} (H : pd_BI th pa L rk) : (pd_ord pa L).length ≤ 12 := by
  have := pd_WLlen H (pd_ordW H).1
  omega
end PDA
