section
section PD0
/-! rows of kit/rows/PURE-ROWS, pasted -/
theorem pk_us {f : Nat → Int32} {k : Nat} {x : Int32} : upd f k x k = x := if_pos rfl
theorem pk_un {f : Nat → Int32} {k j : Nat} {x : Int32} (h : j ≠ k) : upd f k x j = f j := if_neg h
theorem pk_uLs {f : Nat → Int64} {k : Nat} {x : Int64} : vp_updL f k x k = x := if_pos rfl
theorem pk_uLn {f : Nat → Int64} {k j : Nat} {x : Int64} (h : j ≠ k) : vp_updL f k x j = f j := if_neg h
theorem pk_sub {a b : Nat} (h : b ≤ a) : nI a - nI b = nI (a - b) := by
  obtain ⟨c, rfl⟩ : ∃ c, a = c + b := ⟨a - b, by omega⟩
  rw [← nI_add, Int32.add_sub_cancel, Nat.add_sub_cancel]
theorem pk_m1 (n : Nat) : nI (n + 1) + (-1) = nI n := by
  rw [← nI_1, Int32.add_assoc, show (1 : Int32) + (-1) = 0 from rfl, Int32.add_zero]
theorem pk_mul (a b : Nat) : nI a * nI b = nI (a * b) := (Int32.ofNat_mul a b).symm
theorem pk_div {a d : Nat} (ha : a < 2 ^ 31) (h0 : 0 < d) (hd : d < 2 ^ 31) : nI a / nI d = nI (a / d) := by
  apply Int32.toInt_inj.mp
  rw [lg_idiv_nonneg (by rw [nI_toInt ha]; omega) (by rw [nI_toInt hd]; omega), nI_toInt ha, nI_toInt hd, nI_toInt (Nat.lt_of_le_of_lt (Nat.div_le_self a d) ha)]
  first | rfl | exact (Int.natCast_ediv _ _).symm
theorem pk_rem {a d : Nat} (ha : a < 2 ^ 31) (h0 : 0 < d) (hd : d < 2 ^ 31) : nI a - nI a / nI d * nI d = nI (a % d) := by
  rw [pk_div ha h0 hd, pk_mul, pk_sub (Nat.div_mul_le_self a d)]
  exact congrArg nI (by have := Nat.div_add_mod' a d; omega)
theorem pk_sub_toInt {a b : Nat} (ha : a < 2 ^ 30) (hb : b < 2 ^ 30) : (nI a - nI b).toInt = (a : Int) - b := by
  rw [Int32.toInt_sub, nI_toInt (by omega), nI_toInt (by omega)]
  exact Int.bmod_eq_of_le (by omega) (by omega)
theorem pk_sneg {a b : Nat} (hb : b < 2 ^ 30) (h : a < b) : nI a - nI b < 0 := by
  rw [Int32.lt_iff_toInt_lt, pk_sub_toInt (by omega) hb, show (0 : Int32).toInt = 0 from by decide]
  omega
theorem pk_ix (x : Int32) {n : Nat} (hn : n < 2 ^ 31) : x < 0 ∨ nI n ≤ x ∨ ∃ j : Nat, j < n ∧ x = nI j := by
  by_cases h : x < 0
  · exact Or.inl h
  · obtain ⟨j, hj, rfl⟩ := nI_of h
    by_cases h2 : j < n
    · exact Or.inr (Or.inr ⟨j, h2, rfl⟩)
    · exact Or.inr (Or.inl (nI_le (by omega) hj))
theorem pk_le {x y : Int32} {A B : Prop} (a b : Nat) (f : a ≤ b → A) (g : b < a → B) (hx : x = nI a := by rfl) (hy : y = nI b := by rfl) (ha : a < 2 ^ 31 := by omega) (hb : b < 2 ^ 31 := by omega) : (x ≤ y → A) ∧ (¬ x ≤ y → B) := by
  subst hx hy
  rw [nI_leI ha hb]
  exact ⟨f, fun z => g (by omega)⟩
theorem pk_lt {x y : Int32} {A B : Prop} (a b : Nat) (f : a < b → A) (g : b ≤ a → B) (hx : x = nI a := by rfl) (hy : y = nI b := by rfl) (ha : a < 2 ^ 31 := by omega) (hb : b < 2 ^ 31 := by omega) : (x < y → A) ∧ (¬ x < y → B) := by
  subst hx hy
  rw [nI_ltI ha hb]
  exact ⟨f, fun z => g (by omega)⟩
theorem pk_eq {x y : Int32} {A B : Prop} (a b : Nat) (f : a = b → A) (g : a ≠ b → B) (hx : x = nI a := by rfl) (hy : y = nI b := by rfl) (ha : a < 2 ^ 31 := by omega) (hb : b < 2 ^ 31 := by omega) : (x = y → A) ∧ (¬ x = y → B) := by
  subst hx hy
  rw [nI_eq ha hb]
  exact ⟨f, g⟩
theorem pk_in {x : Int32} (n N : Nat) (h : n < N) (hx : x = nI n := by rfl) (hN : N < 2 ^ 31 := by omega) : vp_in x N := by
  subst hx
  exact vp_in_nI h hN
theorem pk_cl {x : Int32} (n : Nat) (hx : x = nI n := by rfl) (h : n < 2 ^ 31 := by omega) : x.toNatClampNeg = n := by
  subst hx
  exact nI_clamp h
theorem pk_tn {n : Nat} (h : n < 2 ^ 32) : (nI n).toBitVec.toNat = n := Nat.mod_eq_of_lt h
theorem pk_and (x : Int32) {m : Int32} (k : Nat) (hm : m.toBitVec.toNat = 2 ^ k - 1) : x &&& m = nI (x.toBitVec.toNat % 2 ^ k) := by
  apply Int32.toBitVec_inj.mp
  apply BitVec.eq_of_toNat_eq
  rw [Int32.toBitVec_and, BitVec.toNat_and, hm, Nat.and_two_pow_sub_one_eq_mod]
  show _ = (BitVec.ofNat 32 _).toNat
  rw [BitVec.toNat_ofNat]
  exact (Nat.mod_eq_of_lt (Nat.lt_of_le_of_lt (Nat.mod_le _ _) x.toBitVec.isLt)).symm
theorem pk_andN {n : Nat} (h : n < 2 ^ 32) {m : Int32} (k : Nat) (hm : m.toBitVec.toNat = 2 ^ k - 1) : nI n &&& m = nI (n % 2 ^ k) := by
  rw [pk_and _ k hm, pk_tn h]
theorem pk_andE (x : Int32) {m : Int32} (k : Nat) (hm : m.toBitVec.toNat = 2 ^ k - 1) : ∃ j : Nat, j < 2 ^ k ∧ x &&& m = nI j := ⟨_, Nat.mod_lt _ (Nat.two_pow_pos k), pk_and x k hm⟩
theorem pk_andIn (x : Int32) {m : Int32} (k : Nat) (hm : m.toBitVec.toNat = 2 ^ k - 1) (hk : k ≤ 30) : vp_in (x &&& m) (2 ^ k) := by
  obtain ⟨j, hj, e⟩ := pk_andE x k hm
  rw [e]
  exact vp_in_nI hj (Nat.lt_of_le_of_lt (Nat.pow_le_pow_right (by decide) hk) (by decide))
/-! the least free widget; a step around -/
def pd_lf (th : Nat → Int32) : Nat → Nat → Nat
  | 0, j => j
  | n + 1, j => if th j = 0 then j else pd_lf th n (j + 1)
theorem pd_lfB (th : Nat → Int32) : ∀ n j, j ≤ pd_lf th n j ∧ pd_lf th n j ≤ j + n ∧ (pd_lf th n j < j + n → th (pd_lf th n j) = 0)
  | 0, j => ⟨Nat.le_refl _, Nat.le_refl _, fun h => absurd h (by simp only [pd_lf]; omega)⟩
  | n + 1, j => by
    simp only [pd_lf]
    by_cases h : th j = 0
    · rw [if_pos h]
      exact ⟨Nat.le_refl _, by omega, fun _ => h⟩
    · rw [if_neg h]
      obtain ⟨h1, h2, h3⟩ := pd_lfB th n (j + 1)
      exact ⟨by omega, by omega, fun z => h3 (by omega)⟩
theorem pd_modS {n : Nat} (hn : 0 < n) (a : Nat) : (a + 1) % n = if n ≤ a % n + 1 then 0 else a % n + 1 := by
  have h := Nat.div_add_mod a n
  have hl := Nat.mod_lt a hn
  by_cases c : n ≤ a % n + 1
  · rw [if_pos c]
    have e : a + 1 = n * (a / n + 1) := by
      rw [Nat.mul_add, Nat.mul_one]
      omega
    rw [e, Nat.mul_mod_right]
  · rw [if_neg c]
    have e : a + 1 = n * (a / n) + (a % n + 1) := by omega
    rw [e, Nat.mul_add_mod, Nat.mod_eq_of_lt (by omega)]
end PD0
end
section
section PDA
/-! A: numbers, stores, truth values -/
theorem pd_us {f : Nat → Int32} {k : Nat} {x : Int32} : upd f k x k = x := if_pos rfl
theorem pd_un {f : Nat → Int32} {k j : Nat} {x : Int32} (h : j ≠ k) : upd f k x j = f j := if_neg h
theorem pd_uu {f : Nat → Int32} {k : Nat} {x y : Int32} : upd (upd f k x) k y = upd f k y := by
  funext j
  by_cases h : j = k
  · subst h; rw [pd_us, pd_us]
  · rw [pd_un h, pd_un h, pd_un h]
theorem pd_b0 : vp_nar .boolean 0 = 0 := by decide
theorem pd_b1 : vp_nar .boolean 1 = 1 := by decide
theorem pd_mul (a b : Nat) : nI a * nI b = nI (a * b) := (Int32.ofNat_mul a b).symm
theorem pd_2 (a : Nat) : 2 * nI a = nI (2 * a) := pd_mul 2 a
theorem pd_21 (a : Nat) : 2 * nI a + 1 = nI (2 * a + 1) := by rw [pd_2, nI_1]
theorem pd_22 (a b : Nat) : 2 * nI a + nI b = nI (2 * a + b) := by rw [pd_2, nI_add]
theorem pd_12 (a : Nat) : 12 * nI a = nI (12 * a) := pd_mul 12 a
theorem pd_12b (a b : Nat) : 12 * nI a + nI b = nI (12 * a + b) := by rw [pd_12, nI_add]
theorem pd_3 (a : Nat) : 3 * nI a = nI (3 * a) := pd_mul 3 a
theorem pd_m1 (n : Nat) : nI (n + 1) + (-1) = nI n := by
  rw [← nI_1, Int32.add_assoc, show (1 : Int32) + (-1) = 0 from rfl, Int32.add_zero]
theorem pd_m {n : Nat} (h : 0 < n) : nI n + (-1) = nI (n - 1) := by
  obtain ⟨m, rfl⟩ : ∃ m, n = m + 1 := ⟨n - 1, by omega⟩
  exact pd_m1 m
theorem pd_s {n : Nat} (h : 0 < n) : nI n - 1 = nI (n - 1) := by
  obtain ⟨m, rfl⟩ : ∃ m, n = m + 1 := ⟨n - 1, by omega⟩
  exact nI_pred m
theorem pd_sub {a b : Nat} (h : b ≤ a) : nI a - nI b = nI (a - b) := by
  obtain ⟨c, rfl⟩ : ∃ c, a = b + c := ⟨a - b, by omega⟩
  rw [← nI_add, show b + c - b = c by omega, Int32.add_comm, Int32.add_sub_cancel]
theorem pd_le0 {a : Nat} (h : a < 2 ^ 31) : nI a ≤ 0 ↔ a = 0 := by
  rw [← nI_0, nI_leI h (by omega)]; omega
theorem pd_eq0 {a : Nat} (h : a < 2 ^ 31) : nI a = 0 ↔ a = 0 := by
  rw [← nI_0, nI_eq h (by omega)]
theorem pd_ne1 {a : Nat} (h : a < 2 ^ 31) : ¬ nI a = -1 := by
  intro e
  have := nI_pos (n := a) h
  rw [e] at this
  exact this (by decide)
theorem pd_1ne {a : Nat} (h : a < 2 ^ 31) : ¬ (-1 : Int32) = nI a := fun e => pd_ne1 h e.symm
theorem pd_im {a b : Nat} (h : nI a = nI b) (ha : a < 2 ^ 31) (hb : b < 2 ^ 31) : a = b := (nI_eq ha hb).mp h
theorem pd_cl {n : Nat} (h : n < 2 ^ 31) : (nI n).toNatClampNeg = n := nI_clamp h
theorem pd_n0 {x : Int32} (h : ¬ x = 0) : x ≠ 0 := h
/-! a pair's array, seen by its first, by its second numbers -/
theorem pd_ev (f : Nat → Int32) (w : Nat) (x y : Int32) : (fun j => upd (upd f (2 * w) x) (2 * w + 1) y (2 * j)) = upd (fun j => f (2 * j)) w x := by
  funext j
  by_cases h : j = w
  · subst h; rw [pd_us, pd_un (by omega), pd_us]
  · rw [pd_un (by omega), pd_un (by omega), pd_un h]
theorem pd_od (f : Nat → Int32) (w : Nat) (x y : Int32) : (fun j => upd (upd f (2 * w) x) (2 * w + 1) y (2 * j + 1)) = upd (fun j => f (2 * j + 1)) w y := by
  funext j
  by_cases h : j = w
  · subst h; rw [pd_us, pd_us]
  · rw [pd_un (by omega), pd_un (by omega), pd_un h]
/-! B: a list in an array -/
def pd_sg (a : Nat → Int32) : Nat → List Nat → Prop
  | _, [] => True
  | i, w :: R => a i = nI w ∧ pd_sg a (i + 1) R
theorem pd_sg_c {a b : Nat → Int32} : ∀ (R : List Nat) (i : Nat), pd_sg a i R → (∀ j, i ≤ j → j < i + R.length → b j = a j) → pd_sg b i R
  | [], _, _, _ => trivial
  | w :: R, i, h, e => ⟨(e i (Nat.le_refl i) (by simp only [List.length_cons]; omega)).trans h.1, pd_sg_c R (i + 1) h.2 (fun j h1 h2 => e j (by omega) (by simp only [List.length_cons]; omega))⟩
theorem pd_sg_s {a b : Nat → Int32} : ∀ (R : List Nat) (i : Nat), pd_sg a i R → (∀ j, i ≤ j → j < i + R.length → b (j + 1) = a j) → pd_sg b (i + 1) R
  | [], _, _, _ => trivial
  | w :: R, i, h, e => ⟨(e i (Nat.le_refl i) (by simp only [List.length_cons]; omega)).trans h.1, pd_sg_s R (i + 1) h.2 (fun j h1 h2 => e j (by omega) (by simp only [List.length_cons]; omega))⟩
theorem pd_sg_a {a : Nat → Int32} : ∀ (A B : List Nat) (i : Nat), pd_sg a i (A ++ B) ↔ pd_sg a i A ∧ pd_sg a (i + A.length) B
  | [], B, i => ⟨fun h => ⟨trivial, h⟩, fun h => h.2⟩
  | w :: A, B, i => by
    have h := pd_sg_a (a := a) A B (i + 1)
    have e : i + (A.length + 1) = i + 1 + A.length := by omega
    simp only [List.cons_append, pd_sg, List.length_cons, h, and_assoc, e]
theorem pd_sg_g {a : Nat → Int32} : ∀ (R : List Nat) (i j : Nat) (h : j < R.length), pd_sg a i R → a (i + j) = nI R[j]
  | _ :: _, _, 0, _, s => s.1
  | w :: R, i, j + 1, h, s => by
    have e := pd_sg_g R (i + 1) j (by simp only [List.length_cons] at h; omega) s.2
    rw [show i + (j + 1) = i + 1 + j by omega]
    exact e
/-- one put in between: what lay behind moves by one -/
theorem pd_sg_i {a b : Nat → Int32} {A B : List Nat} {w : Nat} (h : pd_sg a 0 (A ++ B)) (h1 : ∀ j, j < A.length → b j = a j) (h2 : b A.length = nI w) (h3 : ∀ j, A.length ≤ j → j < A.length + B.length → b (j + 1) = a j) : pd_sg b 0 (A ++ w :: B) := by
  have hs := (pd_sg_a A B 0).mp h
  rw [Nat.zero_add] at hs
  refine (pd_sg_a A (w :: B) 0).mpr ⟨pd_sg_c A 0 hs.1 (fun j _ hj => h1 j (by omega)), ?_⟩
  rw [Nat.zero_add]
  exact ⟨h2, pd_sg_s B A.length hs.2 h3⟩
/-- one put behind -/
theorem pd_sg_e {a : Nat → Int32} {A : List Nat} {w : Nat} (h : pd_sg a 0 A) : pd_sg (upd a A.length (nI w)) 0 (A ++ [w]) := by
  refine (pd_sg_a A [w] 0).mpr ⟨pd_sg_c A 0 h (fun j _ hj => pd_un (by omega)), ?_⟩
  rw [Nat.zero_add]
  exact ⟨pd_us, trivial⟩
/-- a list whose top lies at the end of the array -/
def pd_rs (a : Nat → Int32) : List Nat → Prop
  | [] => True
  | w :: R => a R.length = nI w ∧ pd_rs a R
theorem pd_rs_c {a b : Nat → Int32} : ∀ R : List Nat, pd_rs a R → (∀ j, j < R.length → b j = a j) → pd_rs b R
  | [], _, _ => trivial
  | w :: R, h, e => ⟨(e _ (by simp only [List.length_cons]; omega)).trans h.1, pd_rs_c R h.2 (fun j hj => e j (by simp only [List.length_cons]; omega))⟩
theorem pd_rs_u {a : Nat → Int32} {R : List Nat} {w : Nat} (h : pd_rs a R) : pd_rs (upd a R.length (nI w)) (w :: R) :=
  ⟨pd_us, pd_rs_c R h (fun j hj => pd_un (by omega))⟩
/-! C: kids, the order of the tree -/
def pd_kd (pa : Nat → Int32) (L : List Nat) (p : Nat) : List Nat := L.filter (fun w => decide (pa w = nI p))
def pd_run (pa : Nat → Int32) (L : List Nat) : Nat → List Nat → List Nat → List Nat
  | 0, D, _ => D
  | _ + 1, D, [] => D
  | n + 1, D, w :: R => pd_run pa L n (D ++ [w]) (pd_kd pa L w ++ R)
def pd_ord (pa : Nat → Int32) (L : List Nat) : List Nat := pd_run pa L 12 [] [0]
/-- the tree's data: the stack's list, the parents, a rank that grows downwards -/
def pd_BI (th pa : Nat → Int32) (L : List Nat) (rk : Nat → Nat) : Prop :=
  L.Nodup ∧ (∀ w, w ∈ L → 0 < w ∧ w < 12) ∧ (∀ w, w < 12 → (th w ≠ 0 ↔ w = 0 ∨ w ∈ L)) ∧ pa 0 = -1 ∧
  (∀ w, w ∈ L → ∃ p, (p = 0 ∨ p ∈ L) ∧ pa w = nI p ∧ rk p < rk w)
theorem pd_12lt {L : List Nat} (h : ∀ w, w ∈ L → 0 < w ∧ w < 12) {w : Nat} (hw : w = 0 ∨ w ∈ L) : w < 12 := by
  cases hw with
  | inl h0 => omega
  | inr h1 => exact (h w h1).2
theorem pd_mkd {pa : Nat → Int32} {L : List Nat} {p c : Nat} : c ∈ pd_kd pa L p ↔ c ∈ L ∧ pa c = nI p := by
  unfold pd_kd
  rw [List.mem_filter, decide_eq_true_iff]
theorem pd_nkd {pa : Nat → Int32} {L : List Nat} {p : Nat} (h : L.Nodup) : (pd_kd pa L p).Nodup :=
  List.Nodup.sublist List.filter_sublist h
theorem pd_len12 {A : List Nat} (h : A.Nodup) (hA : ∀ w, w ∈ A → w < 12) : A.length ≤ 12 := by
  have := List.Nodup.length_le_of_subset (l₂ := List.range 12) h (fun w hw => List.mem_range.mpr (hA w hw))
  rwa [List.length_range] at this
theorem pd_len11 {A : List Nat} (h : A.Nodup) (hA : ∀ w, w ∈ A → 0 < w ∧ w < 12) : A.length ≤ 11 := by
  have h0 : (0 :: A).Nodup := List.nodup_cons.mpr ⟨fun z => by have := (hA 0 z).1; omega, h⟩
  have := pd_len12 h0 (fun w hw => by
    cases List.mem_cons.mp hw with
    | inl e => omega
    | inr e => exact (hA w e).2)
  rw [List.length_cons] at this
  omega
/-- the work in hand: done, to do -/
def pd_WL (pa : Nat → Int32) (L D T : List Nat) : Prop :=
  (D ++ T).Nodup ∧ (∀ w, w ∈ D ++ T → w = 0 ∨ w ∈ L) ∧ (∀ w, w ∈ D ++ T → w = 0 ∨ ∃ p, p ∈ D ∧ pa w = nI p) ∧
  (∀ p c, p ∈ D → c ∈ L → pa c = nI p → c ∈ D ++ T) ∧ 0 ∈ D ++ T
theorem pd_WL0 (pa : Nat → Int32) (L : List Nat) : pd_WL pa L [] [0] := by
  refine ⟨by decide, fun w hw => Or.inl (by simpa using hw), fun w hw => Or.inl (by simpa using hw), fun p c hp => ?_, by simp⟩
  cases hp
theorem pd_WLs {th pa : Nat → Int32} {L : List Nat} {rk : Nat → Nat} (H : pd_BI th pa L rk) {D R : List Nat} {w : Nat} (h : pd_WL pa L D (w :: R)) : pd_WL pa L (D ++ [w]) (pd_kd pa L w ++ R) := by
  obtain ⟨hN, hM, hP, hC, h0⟩ := h
  obtain ⟨bN, bL, _, b0, _⟩ := H
  have hw : w < 12 := pd_12lt bL (hM w (by simp))
  have hwD : w ∉ D := by
    intro z
    exact (List.nodup_append.mp hN).2.2 w z w (by simp) rfl
  have hK : ∀ c, c ∈ pd_kd pa L w → c ∉ D ++ w :: R := by
    intro c hc z
    obtain ⟨hcL, hcp⟩ := pd_mkd.mp hc
    cases hP c z with
    | inl e =>
      subst e
      rw [b0] at hcp
      exact pd_1ne (by omega) hcp
    | inr e =>
      obtain ⟨p, hp, ep⟩ := e
      have hp12 : p < 12 := pd_12lt bL (hM p (List.mem_append_left _ hp))
      have : p = w := pd_im (ep.symm.trans hcp) (by omega) (by omega)
      subst this
      exact hwD hp
  have hmem : ∀ x, x ∈ (D ++ [w]) ++ (pd_kd pa L w ++ R) ↔ x ∈ D ++ w :: R ∨ x ∈ pd_kd pa L w := by
    intro x
    simp only [List.mem_append, List.mem_cons, List.not_mem_nil, or_false]
    constructor
    · rintro ((h | h) | (h | h))
      · exact Or.inl (Or.inl h)
      · exact Or.inl (Or.inr (Or.inl h))
      · exact Or.inr h
      · exact Or.inl (Or.inr (Or.inr h))
    · rintro ((h | h | h) | h)
      · exact Or.inl (Or.inl h)
      · exact Or.inl (Or.inr h)
      · exact Or.inr (Or.inr h)
      · exact Or.inr (Or.inl h)
  refine ⟨?_, ?_, ?_, ?_, ?_⟩
  · obtain ⟨n1, n2, n3⟩ := List.nodup_append.mp hN
    obtain ⟨n4, n5⟩ := List.nodup_cons.mp n2
    refine List.nodup_append.mpr ⟨List.nodup_append.mpr ⟨n1, by simp, fun a ha b hb => ?_⟩, List.nodup_append.mpr ⟨pd_nkd bN, n5, fun a ha b hb e => ?_⟩, fun a ha b hb e => ?_⟩
    · have : b = w := by simpa using hb
      subst this
      exact fun e => hwD (e ▸ ha)
    · subst e
      exact hK a ha (by simp [hb])
    · subst e
      have ha' : a ∈ D ++ w :: R := by
        simp only [List.mem_append, List.mem_cons, List.not_mem_nil, or_false] at ha ⊢
        cases ha with
        | inl h => exact Or.inl h
        | inr h => exact Or.inr (Or.inl h)
      cases List.mem_append.mp hb with
      | inl h => exact hK a h ha'
      | inr h =>
        simp only [List.mem_append, List.mem_cons, List.not_mem_nil, or_false] at ha
        cases ha with
        | inl hD => exact n3 a hD a (List.mem_cons_of_mem _ h) rfl
        | inr ew => subst ew; exact n4 h
  · intro x hx
    cases (hmem x).mp hx with
    | inl h => exact hM x h
    | inr h => exact Or.inr (pd_mkd.mp h).1
  · intro x hx
    cases (hmem x).mp hx with
    | inl h =>
      cases hP x h with
      | inl e => exact Or.inl e
      | inr e =>
        obtain ⟨p, hp, ep⟩ := e
        exact Or.inr ⟨p, List.mem_append_left _ hp, ep⟩
    | inr h => exact Or.inr ⟨w, by simp, (pd_mkd.mp h).2⟩
  · intro p c hp hc e
    rw [hmem]
    cases List.mem_append.mp hp with
    | inl h => exact Or.inl (hC p c h hc e)
    | inr h =>
      have : p = w := by simpa using h
      subst this
      exact Or.inr (pd_mkd.mpr ⟨hc, e⟩)
  · exact (hmem 0).mpr (Or.inl h0)
theorem pd_WLlen {th pa : Nat → Int32} {L : List Nat} {rk : Nat → Nat} (H : pd_BI th pa L rk) {D T : List Nat} (h : pd_WL pa L D T) : D.length + T.length ≤ 12 := by
  have := pd_len12 h.1 (fun w hw => pd_12lt H.2.1 (h.2.1 w hw))
  rwa [List.length_append] at this
/-- each one's parent stands ahead of it -/
def pd_pb (pa : Nat → Int32) : List Nat → List Nat → Prop
  | _, [] => True
  | S, w :: R => (w = 0 ∨ ∃ p, p ∈ S ∧ pa w = nI p) ∧ pd_pb pa (w :: S) R
theorem pd_pb_e {pa : Nat → Int32} {w : Nat} : ∀ (D S : List Nat), pd_pb pa S D → (w = 0 ∨ ∃ p, (p ∈ D ∨ p ∈ S) ∧ pa w = nI p) → pd_pb pa S (D ++ [w])
  | [], S, _, h => ⟨h.imp id (fun ⟨p, hp, e⟩ => ⟨p, hp.elim (fun z => by cases z) id, e⟩), trivial⟩
  | d :: D, S, h, hw => ⟨h.1, pd_pb_e D (d :: S) h.2 (hw.imp id (fun ⟨p, hp, e⟩ => ⟨p, by
      cases hp with
      | inl z =>
        cases List.mem_cons.mp z with
        | inl y => exact Or.inr (by simp [y])
        | inr y => exact Or.inl y
      | inr z => exact Or.inr (List.mem_cons_of_mem _ z), e⟩))⟩
theorem pd_runW {th pa : Nat → Int32} {L : List Nat} {rk : Nat → Nat} (H : pd_BI th pa L rk) : ∀ (n : Nat) (D T : List Nat), n + D.length = 12 → pd_WL pa L D T → pd_pb pa [] D → pd_WL pa L (pd_run pa L n D T) [] ∧ pd_pb pa [] (pd_run pa L n D T)
  | 0, D, T, hn, h, hb => by
    have := pd_WLlen H h
    have e : T = [] := List.length_eq_zero_iff.mp (by omega)
    subst e
    exact ⟨h, hb⟩
  | n + 1, D, [], _, h, hb => ⟨h, hb⟩
  | n + 1, D, w :: R, hn, h, hb => by
    refine pd_runW H n (D ++ [w]) (pd_kd pa L w ++ R) (by rw [List.length_append, List.length_singleton]; omega) (pd_WLs H h) (pd_pb_e D [] hb ?_)
    exact (h.2.2.1 w (by simp)).imp id (fun ⟨p, hp, e⟩ => ⟨p, Or.inl hp, e⟩)
theorem pd_ordW {th pa : Nat → Int32} {L : List Nat} {rk : Nat → Nat} (H : pd_BI th pa L rk) : pd_WL pa L (pd_ord pa L) [] ∧ pd_pb pa [] (pd_ord pa L) :=
  pd_runW H 12 [] [0] rfl (pd_WL0 pa L) trivial
theorem pd_ordN {th pa : Nat → Int32} {L : List Nat} {rk : Nat → Nat} (H : pd_BI th pa L rk) : (pd_ord pa L).Nodup := by
  have := (pd_ordW H).1.1
  rwa [List.append_nil] at this
theorem pd_ordM {th pa : Nat → Int32} {L : List Nat} {rk : Nat → Nat} (H : pd_BI th pa L rk) (w : Nat) : w ∈ pd_ord pa L ↔ w = 0 ∨ w ∈ L := by
  have hW := (pd_ordW H).1
  simp only [pd_WL, List.append_nil] at hW
  obtain ⟨_, hM, _, hC, h0⟩ := hW
  refine ⟨hM w, fun h => ?_⟩
  have key : ∀ (n w : Nat), rk w < n → (w = 0 ∨ w ∈ L) → w ∈ pd_ord pa L := by
    intro n
    induction n with
    | zero => intro w hn _; omega
    | succ n ih =>
      intro w hn hw
      cases hw with
      | inl e => subst e; exact h0
      | inr e =>
        obtain ⟨p, hp, ep, hr⟩ := H.2.2.2.2 w e
        exact hC p w (ih p (by omega) hp) e ep
  exact key (rk w + 1) w (by omega) h
theorem pd_ordL {th pa : Nat → Int32} {L : List Nat} {rk : Nat → Nat} (H : pd_BI th pa L rk) : (pd_ord pa L).length ≤ 12 := by
  have := pd_WLlen H (pd_ordW H).1
  omega
end PDA
end
section
section PDB
/-! D: what stands below a widget is reached from the root -/
theorem pd_ind {th pa : Nat → Int32} {L : List Nat} {rk : Nat → Nat} (H : pd_BI th pa L rk) (P : Nat → Prop) (h0 : P 0) (hs : ∀ c p, c ∈ L → (p = 0 ∨ p ∈ L) → pa c = nI p → P p → P c) : ∀ w, (w = 0 ∨ w ∈ L) → P w := by
  have key : ∀ (n w : Nat), rk w < n → (w = 0 ∨ w ∈ L) → P w := by
    intro n
    induction n with
    | zero => intro w hn _; omega
    | succ n ih =>
      intro w hn hw
      cases hw with
      | inl e => subst e; exact h0
      | inr e =>
        obtain ⟨p, hp, ep, hr⟩ := H.2.2.2.2 w e
        exact hs w p e hp ep (ih p (by omega) hp)
  exact fun w hw => key (rk w + 1) w (by omega) hw
/-- what a root's value and a step from parent to child give -/
def pd_gr {V : Type} (pa : Nat → Int32) (r : V) (f : V → Nat → Nat → V) : Nat → Nat → V
  | 0, _ => r
  | n + 1, w => if w = 0 then r else f (pd_gr pa r f n (pa w).toNatClampNeg) (pa w).toNatClampNeg w
theorem pd_gr0 {V : Type} {pa : Nat → Int32} {r : V} {f : V → Nat → Nat → V} : ∀ n, pd_gr pa r f n 0 = r
  | 0 => rfl
  | _ + 1 => if_pos rfl
theorem pd_grs {V : Type} {th pa : Nat → Int32} {L : List Nat} {rk : Nat → Nat} (H : pd_BI th pa L rk) (r : V) (f : V → Nat → Nat → V) : ∀ (n m w : Nat), (w = 0 ∨ w ∈ L) → rk w ≤ n → rk w ≤ m → pd_gr pa r f n w = pd_gr pa r f m w := by
  intro n
  induction n with
  | zero =>
    intro m w hw hn hm
    cases hw with
    | inl e => subst e; rw [pd_gr0, pd_gr0]
    | inr e =>
      obtain ⟨p, hp, ep, hr⟩ := H.2.2.2.2 w e
      omega
  | succ n ih =>
    intro m w hw hn hm
    cases hw with
    | inl e => subst e; rw [pd_gr0, pd_gr0]
    | inr e =>
      obtain ⟨p, hp, ep, hr⟩ := H.2.2.2.2 w e
      have hw0 : ¬ w = 0 := by have := (H.2.1 w e).1; omega
      obtain ⟨m', rfl⟩ : ∃ m', m = m' + 1 := ⟨m - 1, by omega⟩
      have hc : (pa w).toNatClampNeg = p := by rw [ep]; exact pd_cl (by have := pd_12lt H.2.1 hp; omega)
      simp only [pd_gr, if_neg hw0, hc]
      rw [ih m' p hp (by omega) (by omega)]
theorem pd_rec {V : Type} {th pa : Nat → Int32} {L : List Nat} {rk : Nat → Nat} (H : pd_BI th pa L rk) (r : V) (f : V → Nat → Nat → V) : ∃ G : Nat → V, G 0 = r ∧ ∀ c p, c ∈ L → (p = 0 ∨ p ∈ L) → pa c = nI p → G c = f (G p) p c := by
  refine ⟨fun w => pd_gr pa r f (rk w) w, pd_gr0 _, fun c p hc hp ep => ?_⟩
  obtain ⟨q, hq, eq, hr⟩ := H.2.2.2.2 c hc
  have hp12 := pd_12lt H.2.1 hp
  have hq12 := pd_12lt H.2.1 hq
  have : q = p := pd_im (eq.symm.trans ep) (by omega) (by omega)
  subst this
  have hw0 : ¬ c = 0 := by have := (H.2.1 c hc).1; omega
  have hcl : (pa c).toNatClampNeg = q := by rw [ep]; exact pd_cl (by omega)
  show pd_gr pa r f (rk c) c = f (pd_gr pa r f (rk q) q) q c
  obtain ⟨n, en'⟩ : ∃ n, rk c = n + 1 := ⟨rk c - 1, by omega⟩
  rw [en']
  simp only [pd_gr, if_neg hw0, hcl]
  rw [pd_grs H r f n (rk q) q hq (by omega) (by omega)]
/-! E: lines -/
def pd_sh (lo sw w : Int32) : Int32 := if 0 < sw then lo * w / sw else 0
def pd_sw (we vi : Nat → Int32) : List Nat → Int32 → Int32
  | [], s => s
  | c :: R, s => pd_sw we vi R (if vi c = 0 then s else s + we c)
def pd_sr (ws vi : Nat → Int32) (a : Nat) : List Nat → Int32 → Int32
  | [], s => s
  | c :: R, s => pd_sr ws vi a R (if vi c = 0 then s else s - ws (2 * c + a))
def pd_sn (vi : Nat → Int32) : List Nat → Nat → Nat
  | [], n => n
  | c :: R, n => pd_sn vi R (if vi c = 0 then n else n + 1)
def pd_ss (we vi : Nat → Int32) (lo sw : Int32) : List Nat → Int32 → Int32
  | [], s => s
  | c :: R, s => pd_ss we vi lo sw R (if vi c = 0 then s else s + pd_sh lo sw (we c))
def pd_l1 (gp : Int32) (n : Nat) (r : Int32) : Int32 := if 1 < n then r - (nI n - 1) * gp else r
def pd_po (x : Int32) : Int32 := if 0 < x then x else 0
def pd_lo (ws vi : Nat → Int32) (gp : Int32) (a : Nat) (K : List Nat) (sz : Int32) : Int32 := pd_po (pd_l1 gp (pd_sn vi K 0) (pd_sr ws vi a K sz))
def pd_wk (ws we vi : Nat → Int32) (a : Nat) (lo sw gp : Int32) (c : Nat) : List Nat → Int32 → Int32 → Int32 × Int32
  | [], _, _ => (0, 0)
  | d :: R, o, s =>
    if vi d = 0 then pd_wk ws we vi a lo sw gp c R o s
    else if 0 < we d ∧ 0 < o then
      (if c = d then (s, ws (2 * d + a) + pd_sh lo sw (we d) + 1) else pd_wk ws we vi a lo sw gp c R (o + (-1)) (s + (ws (2 * d + a) + pd_sh lo sw (we d) + 1 + gp)))
    else
      (if c = d then (s, ws (2 * d + a) + pd_sh lo sw (we d)) else pd_wk ws we vi a lo sw gp c R o (s + (ws (2 * d + a) + pd_sh lo sw (we d) + gp)))
/-- the line as both sides walk it: g has each one's place and length -/
def pd_PL (ws we vi : Nat → Int32) (a : Nat) (lo sw gp : Int32) (g : Nat → Int32 × Int32) : List Nat → Int32 → Int32 → Prop
  | [], _, _ => True
  | d :: R, o, s => (vi d = 0 → pd_PL ws we vi a lo sw gp g R o s) ∧
    (¬ vi d = 0 → 0 < we d ∧ 0 < o → g d = (s, ws (2 * d + a) + pd_sh lo sw (we d) + 1) ∧ pd_PL ws we vi a lo sw gp g R (o + (-1)) (s + (ws (2 * d + a) + pd_sh lo sw (we d) + 1 + gp))) ∧
    (¬ vi d = 0 → ¬ (0 < we d ∧ 0 < o) → g d = (s, ws (2 * d + a) + pd_sh lo sw (we d)) ∧ pd_PL ws we vi a lo sw gp g R o (s + (ws (2 * d + a) + pd_sh lo sw (we d) + gp)))
theorem pd_PLw {ws we vi : Nat → Int32} {a : Nat} {lo sw gp : Int32} {g : Nat → Int32 × Int32} : ∀ (K : List Nat) (o s : Int32), K.Nodup → (∀ c, c ∈ K → ¬ vi c = 0 → g c = pd_wk ws we vi a lo sw gp c K o s) → pd_PL ws we vi a lo sw gp g K o s
  | [], _, _, _, _ => trivial
  | d :: R, o, s, hN, hg => by
    obtain ⟨hd, hR⟩ := List.nodup_cons.mp hN
    refine ⟨fun hv => pd_PLw R o s hR fun c hc hvc => ?_, fun hv ho => ⟨?_, pd_PLw R _ _ hR fun c hc hvc => ?_⟩, fun hv ho => ⟨?_, pd_PLw R _ _ hR fun c hc hvc => ?_⟩⟩
    · rw [hg c (List.mem_cons_of_mem _ hc) hvc]
      simp only [pd_wk, if_pos hv]
    · rw [hg d (List.mem_cons_self ..) hv]
      simp only [pd_wk, if_neg hv, if_pos ho, if_true]
    · have hcd : ¬ c = d := fun e => hd (e ▸ hc)
      rw [hg c (List.mem_cons_of_mem _ hc) hvc]
      simp only [pd_wk, if_neg hv, if_pos ho, if_neg hcd]
    · rw [hg d (List.mem_cons_self ..) hv]
      simp only [pd_wk, if_neg hv, if_neg ho, if_true]
    · have hcd : ¬ c = d := fun e => hd (e ▸ hc)
      rw [hg c (List.mem_cons_of_mem _ hc) hvc]
      simp only [pd_wk, if_neg hv, if_neg ho, if_neg hcd]
/-- where no one in the line has a weight, the length left over doesn't matter -/
theorem pd_PLi {ws we vi : Nat → Int32} {a : Nat} {lo lo' sw gp : Int32} {g : Nat → Int32 × Int32} (hs : sw = 0) : ∀ (K : List Nat) (o o' s : Int32), (∀ c, c ∈ K → ¬ vi c = 0 → we c = 0) → pd_PL ws we vi a lo sw gp g K o s → pd_PL ws we vi a lo' sw gp g K o' s
  | [], _, _, _, _, _ => trivial
  | d :: R, o, o', s, hw, h => by
    have e : ∀ x y : Int32, pd_sh x sw y = 0 := fun x y => if_neg (by rw [hs]; decide)
    have hR : ∀ c, c ∈ R → ¬ vi c = 0 → we c = 0 := fun c hc => hw c (List.mem_cons_of_mem _ hc)
    refine ⟨fun hv => pd_PLi hs R o o' s hR (h.1 hv), fun hv ho => ?_, fun hv ho => ?_⟩
    · have := hw d (List.mem_cons_self ..) hv
      rw [this] at ho
      exact absurd ho.1 (by decide)
    · have h0 : ¬ (0 < we d ∧ 0 < o) := by
        intro z
        rw [hw d (List.mem_cons_self ..) hv] at z
        exact absurd z.1 (by decide)
      obtain ⟨h1, h2⟩ := h.2.2 hv h0
      simp only [e] at h1 h2 ⊢
      exact ⟨h1, pd_PLi hs R o o' _ hR h2⟩
/-- the sum of the weights is small, and is 0 only where all are -/
theorem pd_swN {we vi : Nat → Int32} (hw : ∀ c, c < 12 → ∃ k, k ≤ 3 ∧ we c = nI k) : ∀ (K : List Nat) (n : Nat), (∀ c, c ∈ K → c < 12) → ∃ m, pd_sw we vi K (nI n) = nI m ∧ n ≤ m ∧ m ≤ n + 3 * K.length ∧ (m = n → ∀ c, c ∈ K → ¬ vi c = 0 → we c = 0)
  | [], n, _ => ⟨n, rfl, Nat.le_refl _, by simp, fun _ c hc => by cases hc⟩
  | d :: R, n, hK => by
    have hR : ∀ c, c ∈ R → c < 12 := fun c hc => hK c (List.mem_cons_of_mem _ hc)
    by_cases hv : vi d = 0
    · obtain ⟨m, e, h1, h2, h3⟩ := pd_swN hw R n hR
      refine ⟨m, by simp only [pd_sw, if_pos hv]; exact e, h1, by simp only [List.length_cons]; omega, fun em c hc hvc => ?_⟩
      cases List.mem_cons.mp hc with
      | inl ec => subst ec; exact absurd hv hvc
      | inr hc => exact h3 em c hc hvc
    · obtain ⟨k, hk, ek⟩ := hw d (hK d (List.mem_cons_self ..))
      obtain ⟨m, e, h1, h2, h3⟩ := pd_swN hw R (n + k) hR
      refine ⟨m, by simp only [pd_sw, if_neg hv, ek, nI_add]; exact e, by omega, by simp only [List.length_cons]; omega, fun em c hc hvc => ?_⟩
      have hk0 : k = 0 := by omega
      cases List.mem_cons.mp hc with
      | inl ec => subst ec; rw [ek, hk0]; exact nI_0
      | inr hc => exact h3 (by omega) c hc hvc
theorem pd_snL (vi : Nat → Int32) : ∀ (K : List Nat) (n : Nat), n ≤ pd_sn vi K n ∧ pd_sn vi K n ≤ n + K.length
  | [], n => ⟨Nat.le_refl _, Nat.le_refl _⟩
  | c :: R, n => by
    simp only [pd_sn, List.length_cons]
    by_cases hv : vi c = 0
    · rw [if_pos hv]
      have := pd_snL vi R n
      omega
    · rw [if_neg hv]
      have := pd_snL vi R (n + 1)
      omega
/-- none in the line: no weight -/
theorem pd_sn0 {we vi : Nat → Int32} : ∀ (K : List Nat) (n : Nat) (s : Int32), pd_sn vi K n = n → pd_sw we vi K s = s
  | [], _, _, _ => rfl
  | c :: R, n, s, h => by
    simp only [pd_sn] at h
    simp only [pd_sw]
    by_cases hv : vi c = 0
    · rw [if_pos hv] at h ⊢
      exact pd_sn0 R n s h
    · rw [if_neg hv] at h
      have := (pd_snL vi R (n + 1)).1
      omega
/-- the other side's way to reckon what is left -/
def pd_yr (ws vi : Nat → Int32) (a : Nat) (gp : Int32) : List Nat → Int32 → Int32
  | [], r => r
  | c :: R, r => pd_yr ws vi a gp R (if vi c = 0 then r else r - (gp + ws (2 * c + a)))
theorem pd_yr_x {ws vi : Nat → Int32} {a : Nat} {gp : Int32} : ∀ (K : List Nat) (n : Nat) (r x : Int32), x = r + gp - nI n * gp → pd_yr ws vi a gp K x = pd_sr ws vi a K r + gp - nI (pd_sn vi K n) * gp
  | [], n, r, x, h => h
  | c :: R, n, r, x, h => by
    simp only [pd_yr, pd_sr, pd_sn]
    by_cases hv : vi c = 0
    · rw [if_pos hv, if_pos hv, if_pos hv]
      exact pd_yr_x R n r x h
    · rw [if_neg hv, if_neg hv, if_neg hv]
      refine pd_yr_x R (n + 1) (r - ws (2 * c + a)) _ ?_
      rw [h, nI_succ]
      grind
theorem pd_yr_l {ws vi : Nat → Int32} {a : Nat} {gp sz : Int32} {K : List Nat} (h : 0 < pd_sn vi K 0) : pd_yr ws vi a gp K (sz + gp) = pd_l1 gp (pd_sn vi K 0) (pd_sr ws vi a K sz) := by
  rw [pd_yr_x K 0 sz (sz + gp) (by rw [nI_0]; grind)]
  unfold pd_l1
  by_cases h1 : 1 < pd_sn vi K 0
  · rw [if_pos h1]
    grind
  · rw [if_neg h1, show pd_sn vi K 0 = 1 by omega, show nI 1 = 1 from rfl]
    grind
/-! F: the picture: of each widget its place and size, SEEN, ABLE, its clip -/
abbrev pd_V : Type := (Nat → Int32) × (Nat → Int32) × Int32 × Int32 × (Nat → Int32) × (Nat → Int32)
def pd_Fp (pa wp ws sh vi la ga we : Nat → Int32) (L : List Nat) (g : pd_V) (p c a : Nat) : Int32 × Int32 :=
  if la p = 0 then (g.1 a + wp (2 * c + a) - sh (2 * p + a), ws (2 * c + a))
  else if vi c = 0 then (g.1 a, ws (2 * c + a))
  else if la p = nI (a + 1) then
    pd_wk ws we vi a (pd_lo ws vi (ga p) a (pd_kd pa L p) (g.2.1 a)) (pd_sw we vi (pd_kd pa L p) 0) (ga p) c (pd_kd pa L p)
      (pd_lo ws vi (ga p) a (pd_kd pa L p) (g.2.1 a) - pd_ss we vi (pd_lo ws vi (ga p) a (pd_kd pa L p) (g.2.1 a)) (pd_sw we vi (pd_kd pa L p) 0) (pd_kd pa L p) 0)
      (g.1 a - sh (2 * p + a))
  else (g.1 a - sh (2 * p + a), g.2.1 a)
def pd_F (pa wp ws sh vi en la ga we : Nat → Int32) (L : List Nat) (g : pd_V) (p c : Nat) : pd_V :=
  (fun a => (pd_Fp pa wp ws sh vi la ga we L g p c a).1,
   fun a => (pd_Fp pa wp ws sh vi la ga we L g p c a).2,
   if ¬ vi c = 0 ∧ ¬ g.2.2.1 = 0 then 1 else 0,
   if ¬ en c = 0 ∧ ¬ g.2.2.2.1 = 0 then 1 else 0,
   fun a => if (pd_Fp pa wp ws sh vi la ga we L g p c a).1 < g.2.2.2.2.1 a then g.2.2.2.2.1 a else (pd_Fp pa wp ws sh vi la ga we L g p c a).1,
   fun a => if g.2.2.2.2.2 a < (pd_Fp pa wp ws sh vi la ga we L g p c a).1 + (pd_Fp pa wp ws sh vi la ga we L g p c a).2 then g.2.2.2.2.2 a else (pd_Fp pa wp ws sh vi la ga we L g p c a).1 + (pd_Fp pa wp ws sh vi la ga we L g p c a).2)
def pd_R (wp ws vi en : Nat → Int32) : pd_V :=
  (wp, ws, if ¬ vi 0 = 0 then 1 else 0, if ¬ en 0 = 0 then 1 else 0, wp, fun a => wp a + ws a)
/-- the picture's own equations -/
def pd_LE (pa wp ws sh vi en la ga we : Nat → Int32) (L : List Nat) (G : Nat → pd_V) : Prop :=
  G 0 = pd_R wp ws vi en ∧ ∀ c p, c ∈ L → (p = 0 ∨ p ∈ L) → pa c = nI p → G c = pd_F pa wp ws sh vi en la ga we L (G p) p c
theorem pd_Gex {th pa : Nat → Int32} (wp ws sh vi en la ga we : Nat → Int32) {L : List Nat} {rk : Nat → Nat} (H : pd_BI th pa L rk) : ∃ G, pd_LE pa wp ws sh vi en la ga we L G :=
  pd_rec H (pd_R wp ws vi en) (fun g p c => pd_F pa wp ws sh vi en la ga we L g p c)
/-- the line that a row's or a column's kids make -/
theorem pd_LEp {th pa wp ws sh vi en la ga we : Nat → Int32} {L : List Nat} {rk : Nat → Nat} {G : Nat → pd_V} (H : pd_BI th pa L rk) (hG : pd_LE pa wp ws sh vi en la ga we L G) {p a : Nat} (hp : p = 0 ∨ p ∈ L) (hl0 : ¬ la p = 0) (hl : la p = nI (a + 1)) :
    pd_PL ws we vi a (pd_lo ws vi (ga p) a (pd_kd pa L p) ((G p).2.1 a)) (pd_sw we vi (pd_kd pa L p) 0) (ga p) (fun c => ((G c).1 a, (G c).2.1 a)) (pd_kd pa L p)
      (pd_lo ws vi (ga p) a (pd_kd pa L p) ((G p).2.1 a) - pd_ss we vi (pd_lo ws vi (ga p) a (pd_kd pa L p) ((G p).2.1 a)) (pd_sw we vi (pd_kd pa L p) 0) (pd_kd pa L p) 0)
      ((G p).1 a - sh (2 * p + a)) := by
  refine pd_PLw _ _ _ (pd_nkd H.1) fun c hc hv => ?_
  obtain ⟨hcL, hcp⟩ := pd_mkd.mp hc
  have e := hG.2 c p hcL hp hcp
  show ((G c).1 a, (G c).2.1 a) = _
  rw [e]
  simp only [pd_F, pd_Fp, if_neg hl0, if_neg hv, if_pos hl]
theorem pd_Gfree {pa wp ws sh vi en la ga we : Nat → Int32} {L : List Nat} {G : Nat → pd_V} (hG : pd_LE pa wp ws sh vi en la ga we L G) {p c : Nat} (hp : p = 0 ∨ p ∈ L) (hc : c ∈ pd_kd pa L p) (h : la p = 0) (a : Nat) : (G c).1 a = (G p).1 a + wp (2 * c + a) - sh (2 * p + a) ∧ (G c).2.1 a = ws (2 * c + a) := by
  obtain ⟨hcL, hcp⟩ := pd_mkd.mp hc
  rw [hG.2 c p hcL hp hcp]
  simp only [pd_F, pd_Fp, if_pos h, and_self]
theorem pd_Ghid {pa wp ws sh vi en la ga we : Nat → Int32} {L : List Nat} {G : Nat → pd_V} (hG : pd_LE pa wp ws sh vi en la ga we L G) {p c : Nat} (hp : p = 0 ∨ p ∈ L) (hc : c ∈ pd_kd pa L p) (h : ¬ la p = 0) (hv : vi c = 0) (a : Nat) : (G c).1 a = (G p).1 a ∧ (G c).2.1 a = ws (2 * c + a) := by
  obtain ⟨hcL, hcp⟩ := pd_mkd.mp hc
  rw [hG.2 c p hcL hp hcp]
  simp only [pd_F, pd_Fp, if_neg h, if_pos hv, and_self]
theorem pd_Gacr {pa wp ws sh vi en la ga we : Nat → Int32} {L : List Nat} {G : Nat → pd_V} (hG : pd_LE pa wp ws sh vi en la ga we L G) {p c : Nat} (hp : p = 0 ∨ p ∈ L) (hc : c ∈ pd_kd pa L p) (h : ¬ la p = 0) (hv : ¬ vi c = 0) {a : Nat} (ha : ¬ la p = nI (a + 1)) : (G c).1 a = (G p).1 a - sh (2 * p + a) ∧ (G c).2.1 a = (G p).2.1 a := by
  obtain ⟨hcL, hcp⟩ := pd_mkd.mp hc
  rw [hG.2 c p hcL hp hcp]
  simp only [pd_F, pd_Fp, if_neg h, if_neg hv, if_neg ha, and_self]
/-- the clips lie on the screen -/
theorem pd_LEc {th pa wp ws sh vi en la ga we : Nat → Int32} {L : List Nat} {rk : Nat → Nat} {G : Nat → pd_V} (H : pd_BI th pa L rk) (hG : pd_LE pa wp ws sh vi en la ga we L G) (a : Nat) (x y : Int32) (hx : wp a = x) (hy : wp a + ws a = y) : ∀ w, (w = 0 ∨ w ∈ L) → x ≤ (G w).2.2.2.2.1 a ∧ (G w).2.2.2.2.2 a ≤ y := by
  refine pd_ind H _ ?_ ?_
  · rw [hG.1]
    simp only [pd_R]
    exact ⟨by rw [hx]; exact Int32.le_refl _, by rw [hy]; exact Int32.le_refl _⟩
  · intro c p hc hp ep ih
    rw [hG.2 c p hc hp ep]
    simp only [pd_F]
    refine ⟨?_, ?_⟩
    · by_cases h : (pd_Fp pa wp ws sh vi la ga we L (G p) p c a).1 < (G p).2.2.2.2.1 a
      · rw [if_pos h]; exact ih.1
      · rw [if_neg h]; exact Int32.le_trans ih.1 (Int32.not_lt.mp h)
    · by_cases h : (G p).2.2.2.2.2 a < (pd_Fp pa wp ws sh vi la ga we L (G p) p c a).1 + (pd_Fp pa wp ws sh vi la ga we L (G p) p c a).2
      · rw [if_pos h]; exact ih.2
      · rw [if_neg h]; exact Int32.le_trans (Int32.not_lt.mp h) ih.2
end PDB
end
section
section PDC
/-! G: bits -/
def bt (x : Int32) (i : Nat) : Bool := x.toBitVec.getLsbD i
theorem b_ext {x y : Int32} (h : ∀ i, i < 32 → bt x i = bt y i) : x = y := Int32.toBitVec_inj.mp (BitVec.eq_of_getLsbD_eq (fun i hi => h i hi))
theorem b_or (x y : Int32) (i : Nat) : bt (x ||| y) i = (bt x i || bt y i) := by unfold bt; rw [Int32.toBitVec_or, BitVec.getLsbD_or]
theorem b_and (x y : Int32) (i : Nat) : bt (x &&& y) i = (bt x i && bt y i) := by unfold bt; rw [Int32.toBitVec_and, BitVec.getLsbD_and]
theorem b_0 (i : Nat) : bt 0 i = false := BitVec.getLsbD_zero
theorem s_l : ∀ n, n < 32 → ((nI n &&& 31).toBitVec.smod 32).toNat = n := by decide +kernel
theorem b_shl (n : Nat) (hn : n < 32) (x : Int32) {i : Nat} (hi : i < 32) : bt (x <<< (nI n &&& 31)) i = (decide (n ≤ i) && bt x (i - n)) := by
  unfold bt
  rw [Int32.toBitVec_shiftLeft]
  show (x.toBitVec <<< ((nI n &&& 31).toBitVec.smod 32).toNat).getLsbD i = _
  rw [s_l n hn, BitVec.getLsbD_shiftLeft]
  rcases Nat.lt_or_ge i n with h | h
  · simp [h, Nat.not_le.mpr h]
  · simp [hi, h, Nat.not_lt.mpr h]
theorem b_sshr (n : Nat) (hn : n < 32) (x : Int32) {i : Nat} (hi : i < 32) : bt (x >>> (nI n &&& 31)) i = if n + i < 32 then bt x (n + i) else bt x 31 := by
  unfold bt
  rw [Int32.toBitVec_shiftRight]
  show (x.toBitVec.sshiftRight ((nI n &&& 31).toBitVec.smod 32).toNat).getLsbD i = _
  rw [s_l n hn, BitVec.getLsbD_sshiftRight, BitVec.msb_eq_getLsbD_last]
  simp [hi]
theorem pd_bt1 : ∀ i, i < 32 → bt 1 i = decide (i = 0) := by decide +kernel
theorem pd_bt0 (m : Int32) {l : Nat} (hl : l < 32) : (m >>> (nI l &&& 31)) &&& 1 = 0 ↔ bt m l = false := by
  constructor
  · intro h
    have e := congrArg (fun z => bt z 0) h
    simp only [b_and, b_0] at e
    rw [b_sshr l hl m (by omega), if_pos (by omega), pd_bt1 0 (by omega)] at e
    simpa using e
  · intro h
    apply b_ext
    intro i hi
    rw [b_and, b_0, pd_bt1 i hi]
    by_cases e : i = 0
    · subst e; rw [b_sshr l hl m (by omega), if_pos (by omega), Nat.add_zero, h]; rfl
    · simp [e]
theorem pd_btS (m : Int32) {w l : Nat} (hw : w < 32) (hl : l < 32) : bt (m ||| ((1 : Int32) <<< (nI w &&& 31))) l = (bt m l || decide (l = w)) := by
  rw [b_or, b_shl w hw 1 hl]
  congr 1
  by_cases h : w ≤ l
  · rw [pd_bt1 (l - w) (by omega)]
    by_cases e : l = w
    · simp [e]
    · have : ¬ l - w = 0 := by omega
      simp [h, e, this]
  · have : ¬ l = w := by omega
    simp [h, this]
/-- how many have no bit yet -/
def pd_cu (m : Int32) : Nat → Nat
  | 0 => 0
  | n + 1 => pd_cu m n + (if bt m n = false then 1 else 0)
theorem pd_cuK (m : Int32) {w : Nat} (hw : w < 32) : ∀ n, n ≤ w → pd_cu (m ||| ((1 : Int32) <<< (nI w &&& 31))) n = pd_cu m n
  | 0, _ => rfl
  | n + 1, h => by
    have e : ¬ n = w := by omega
    simp only [pd_cu]
    rw [pd_cuK m hw n (by omega), pd_btS m hw (by omega), decide_eq_false e, Bool.or_false]
theorem pd_cuS (m : Int32) {w : Nat} (hm : bt m w = false) : ∀ n, w < n → n ≤ 32 → pd_cu (m ||| ((1 : Int32) <<< (nI w &&& 31))) n + 1 = pd_cu m n
  | 0, h, _ => by omega
  | n + 1, h, h2 => by
    simp only [pd_cu]
    by_cases e : n = w
    · subst e
      rw [pd_cuK m (by omega) n (by omega), pd_btS m (by omega) (by omega), hm]
      simp
    · have i := pd_cuS m hm n (by omega) (by omega)
      rw [pd_btS m (by omega) (by omega), decide_eq_false e, Bool.or_false]
      omega
theorem pd_cu0 : pd_cu 0 12 = 12 := by
  have : ∀ n, pd_cu 0 n = n := by
    intro n
    induction n with
    | zero => rfl
    | succ n ih => simp only [pd_cu, ih, b_0, if_true]
  exact this 12
/-! H: a widget out of a list, put behind, put ahead -/
def pd_rm (L : List Nat) (w : Nat) : List Nat := L.filter (fun x => decide (x ≠ w))
theorem pd_mrm {L : List Nat} {w x : Nat} : x ∈ pd_rm L w ↔ x ∈ L ∧ x ≠ w := by
  unfold pd_rm; rw [List.mem_filter, decide_eq_true_iff]
theorem pd_rmN {L : List Nat} {w : Nat} (h : L.Nodup) : (pd_rm L w).Nodup := List.Nodup.sublist List.filter_sublist h
theorem pd_rm0 {L : List Nat} {w : Nat} (h : w ∉ L) : pd_rm L w = L := by
  unfold pd_rm
  rw [List.filter_eq_self]
  intro a ha
  rw [decide_eq_true_iff]
  exact fun e => h (e ▸ ha)
theorem pd_kdrm (pa : Nat → Int32) (L : List Nat) (w q : Nat) : pd_kd pa (pd_rm L w) q = pd_rm (pd_kd pa L q) w := by
  unfold pd_kd pd_rm
  rw [List.filter_filter, List.filter_filter]
  congr 1
  funext x
  exact Bool.and_comm _ _
theorem pd_kd_a (pa : Nat → Int32) (A B : List Nat) (q : Nat) : pd_kd pa (A ++ B) q = pd_kd pa A q ++ pd_kd pa B q := by
  unfold pd_kd; rw [List.filter_append]
theorem pd_kd1 {pa : Nat → Int32} {w q : Nat} (h : pa w = nI q) : pd_kd pa [w] q = [w] := by
  unfold pd_kd; simp [h]
theorem pd_kd1n {pa : Nat → Int32} {w q : Nat} (h : ¬ pa w = nI q) : pd_kd pa [w] q = [] := by
  unfold pd_kd; simp [h]
theorem pd_kdc {pa pa' : Nat → Int32} {L : List Nat} {q : Nat} (h : ∀ x, x ∈ L → pa' x = pa x) : pd_kd pa' L q = pd_kd pa L q := by
  unfold pd_kd
  apply List.filter_congr
  intro x hx
  rw [h x hx]
theorem pd_rmlen {L : List Nat} {w : Nat} (h : L.Nodup) (hw : w ∈ L) : (pd_rm L w).length + 1 = L.length := by
  have e := List.Nodup.erase_eq_filter h w
  have l := List.length_erase_of_mem hw
  have : pd_rm L w = L.erase w := by
    rw [e]; unfold pd_rm
    apply List.filter_congr
    intro x _
    by_cases hx : x = w
    · simp [hx]
    · simp [hx]
  rw [this, l]
  have := List.length_pos_of_mem hw
  omega
/-- raised or lowered: the same widgets in another order -/
theorem pd_BIr {th pa : Nat → Int32} {L L' : List Nat} {rk : Nat → Nat} (H : pd_BI th pa L rk) (hN : L'.Nodup) (hM : ∀ x, x ∈ L' ↔ x ∈ L) : pd_BI th pa L' rk := by
  obtain ⟨_, b2, b3, b4, b5⟩ := H
  refine ⟨hN, fun w hw => b2 w ((hM w).mp hw), fun w hw => by rw [hM]; exact b3 w hw, b4, fun w hw => ?_⟩
  obtain ⟨p, hp, e, r⟩ := b5 w ((hM w).mp hw)
  exact ⟨p, by rw [hM]; exact hp, e, r⟩
theorem pd_hiN {L : List Nat} {w : Nat} (h : L.Nodup) : (pd_rm L w ++ [w]).Nodup := by
  refine List.nodup_append.mpr ⟨pd_rmN h, by simp, fun a ha b hb e => ?_⟩
  have : b = w := by simpa using hb
  exact (pd_mrm.mp ha).2 (e.trans this)
theorem pd_hiM {L : List Nat} {w : Nat} (hw : w ∈ L) (x : Nat) : x ∈ pd_rm L w ++ [w] ↔ x ∈ L := by
  rw [List.mem_append, pd_mrm]
  constructor
  · rintro (h | h)
    · exact h.1
    · have : x = w := by simpa using h
      rw [this]; exact hw
  · intro h
    by_cases e : x = w
    · exact Or.inr (by simp [e])
    · exact Or.inl ⟨h, e⟩
theorem pd_loN {L : List Nat} {w : Nat} (h : L.Nodup) : (w :: pd_rm L w).Nodup :=
  List.nodup_cons.mpr ⟨fun z => (pd_mrm.mp z).2 rfl, pd_rmN h⟩
theorem pd_loM {L : List Nat} {w : Nat} (hw : w ∈ L) (x : Nat) : x ∈ w :: pd_rm L w ↔ x ∈ L := by
  rw [List.mem_cons, pd_mrm]
  constructor
  · rintro (h | h)
    · rw [h]; exact hw
    · exact h.1
  · intro h
    by_cases e : x = w
    · exact Or.inl e
    · exact Or.inr ⟨h, e⟩
theorem pd_kdhi {pa : Nat → Int32} {L : List Nat} {w p : Nat} (e : pa w = nI p) : pd_kd pa (pd_rm L w ++ [w]) p = pd_rm (pd_kd pa L p) w ++ [w] := by
  rw [pd_kd_a, pd_kdrm, pd_kd1 e]
theorem pd_kdlo {pa : Nat → Int32} {L : List Nat} {w p : Nat} (e : pa w = nI p) : pd_kd pa (w :: pd_rm L w) p = w :: pd_rm (pd_kd pa L p) w := by
  rw [show w :: pd_rm L w = [w] ++ pd_rm L w from rfl, pd_kd_a, pd_kdrm, pd_kd1 e]
  rfl
theorem pd_kdhin {pa : Nat → Int32} {L : List Nat} {w q : Nat} (e : ¬ pa w = nI q) : pd_kd pa (pd_rm L w ++ [w]) q = pd_kd pa L q := by
  rw [pd_kd_a, pd_kdrm, pd_kd1n e, List.append_nil, pd_rm0 (fun z => e (pd_mkd.mp z).2)]
theorem pd_kdlon {pa : Nat → Int32} {L : List Nat} {w q : Nat} (e : ¬ pa w = nI q) : pd_kd pa (w :: pd_rm L w) q = pd_kd pa L q := by
  rw [show w :: pd_rm L w = [w] ++ pd_rm L w from rfl, pd_kd_a, pd_kdrm, pd_kd1n e, List.nil_append, pd_rm0 (fun z => e (pd_mkd.mp z).2)]
/-- a new widget -/
theorem pd_BIn {th pa : Nat → Int32} {L : List Nat} {rk : Nat → Nat} (H : pd_BI th pa L rk) {w p : Nat} (hw : w < 12) (ht : th w = 0) (hp : p < 12) (htp : th p ≠ 0) :
    pd_BI (upd th w 1) (upd pa w (nI p)) (L ++ [w]) (fun x => if x = w then rk p + 1 else rk x) ∧ w ∉ L ∧ 0 < w ∧ (p = 0 ∨ p ∈ L) ∧ p ≠ w ∧
    (∀ q, (q = 0 ∨ q ∈ L) → q ≠ p → pd_kd (upd pa w (nI p)) (L ++ [w]) q = pd_kd pa L q) ∧ pd_kd (upd pa w (nI p)) (L ++ [w]) p = pd_kd pa L p ++ [w] ∧ pd_kd (upd pa w (nI p)) (L ++ [w]) w = [] := by
  obtain ⟨b1, b2, b3, b4, b5⟩ := H
  have hwn : ¬ (w = 0 ∨ w ∈ L) := fun z => (b3 w hw).mpr z ht
  have hwL : w ∉ L := fun z => hwn (Or.inr z)
  have hw0 : ¬ w = 0 := fun z => hwn (Or.inl z)
  have hpL : p = 0 ∨ p ∈ L := (b3 p hp).mp htp
  have hpw : p ≠ w := fun e => hwn (e ▸ hpL)
  have hc : ∀ x, x ∈ L → upd pa w (nI p) x = pa x := fun x hx => pd_un (fun e => hwL (e ▸ hx))
  refine ⟨⟨?_, ?_, ?_, ?_, ?_⟩, hwL, by omega, hpL, hpw, ?_, ?_, ?_⟩
  · refine List.nodup_append.mpr ⟨b1, by simp, fun a ha b hb e => ?_⟩
    have : b = w := by simpa using hb
    exact hwL (this ▸ e ▸ ha)
  · intro x hx
    cases List.mem_append.mp hx with
    | inl h => exact b2 x h
    | inr h =>
      have : x = w := by simpa using h
      omega
  · intro x hx
    by_cases e : x = w
    · subst e
      rw [pd_us]
      exact ⟨fun _ => Or.inr (by simp), fun _ => by decide⟩
    · rw [pd_un e, b3 x hx, List.mem_append]
      constructor
      · rintro (h | h)
        · exact Or.inl h
        · exact Or.inr (Or.inl h)
      · rintro (h | h | h)
        · exact Or.inl h
        · exact Or.inr h
        · exact absurd (by simpa using h) e
  · rw [pd_un (fun e => hw0 e.symm)]; exact b4
  · intro x hx
    by_cases e : x = w
    · subst e
      refine ⟨p, ?_, pd_us, ?_⟩
      · exact hpL.imp id (fun h => List.mem_append_left _ h)
      · dsimp only; rw [if_pos rfl, if_neg hpw]; omega
    · have hxL : x ∈ L := by
        cases List.mem_append.mp hx with
        | inl h => exact h
        | inr h => exact absurd (by simpa using h) e
      obtain ⟨q, hq, eq, hr⟩ := b5 x hxL
      have hqw : q ≠ w := fun e => hwn (e ▸ hq)
      refine ⟨q, hq.imp id (fun h => List.mem_append_left _ h), by rw [pd_un e]; exact eq, ?_⟩
      dsimp only; rw [if_neg e, if_neg hqw]; exact hr
  · intro q hq hqp
    have hq12 := pd_12lt b2 hq
    rw [pd_kd_a, pd_kdc hc, pd_kd1n, List.append_nil]
    rw [pd_us]
    exact fun e => hqp (pd_im e (by omega) (by omega)).symm
  · rw [pd_kd_a, pd_kdc hc, pd_kd1 pd_us]
  · rw [pd_kd_a, pd_kdc hc, pd_kd1n (by rw [pd_us]; exact fun e => hpw (pd_im e (by omega) (by omega))), List.append_nil]
    apply List.eq_nil_iff_forall_not_mem.mpr
    intro x hx
    obtain ⟨hxL, hxp⟩ := pd_mkd.mp hx
    obtain ⟨q, hq, eq, hr⟩ := b5 x hxL
    have hq12 := pd_12lt b2 hq
    have : q = w := pd_im (eq.symm.trans hxp) (by omega) (by omega)
    exact hwn (this ▸ hq)
/-- a widget and all that hangs below it taken away -/
theorem pd_BId {th th' pa : Nat → Int32} {L : List Nat} {rk : Nat → Nat} (H : pd_BI th pa L rk) {a : Nat} {de : Nat → Bool} (h0 : de 0 = false) (hd : ∀ c p, c ∈ L → (p = 0 ∨ p ∈ L) → pa c = nI p → de c = (decide (c = a) || de p)) (ht : ∀ w, w < 12 → (th' w ≠ 0 ↔ th w ≠ 0 ∧ de w = false)) :
    pd_BI th' pa (L.filter (fun w => !de w)) rk ∧ ∀ q, (q = 0 ∨ q ∈ L) → de q = false → pd_kd pa (L.filter (fun w => !de w)) q = pd_rm (pd_kd pa L q) a := by
  obtain ⟨b1, b2, b3, b4, b5⟩ := H
  have hm : ∀ x, x ∈ L.filter (fun w => !de w) ↔ x ∈ L ∧ de x = false := by
    intro x; rw [List.mem_filter]; simp
  refine ⟨⟨List.Nodup.sublist List.filter_sublist b1, fun w hw => b2 w ((hm w).mp hw).1, ?_, b4, ?_⟩, ?_⟩
  · intro w hw
    rw [ht w hw, b3 w hw, hm]
    constructor
    · rintro ⟨h | h, h2⟩
      · exact Or.inl h
      · exact Or.inr ⟨h, h2⟩
    · rintro (h | h)
      · exact ⟨Or.inl h, h ▸ h0⟩
      · exact ⟨Or.inr h.1, h.2⟩
  · intro w hw
    obtain ⟨hwL, hwd⟩ := (hm w).mp hw
    obtain ⟨p, hp, e, r⟩ := b5 w hwL
    refine ⟨p, ?_, e, r⟩
    have := hd w p hwL hp e
    rw [hwd] at this
    cases hp with
    | inl h => exact Or.inl h
    | inr h =>
      refine Or.inr ((hm p).mpr ⟨h, ?_⟩)
      cases hdp : de p with
      | false => rfl
      | true => rw [hdp, Bool.or_true] at this; exact absurd this (by decide)
  · intro q hq hdq
    unfold pd_kd pd_rm
    rw [List.filter_filter, List.filter_filter]
    apply List.filter_congr
    intro x hx
    by_cases e : pa x = nI q
    · have := hd x q hx hq e
      rw [hdq, Bool.or_false] at this
      rw [this, decide_eq_true e]
      by_cases ea : x = a
      · simp [ea]
      · simp [ea]
    · rw [decide_eq_false e, Bool.false_and, Bool.and_false]
/-- two ways to count the same widgets -/
theorem pd_cnt {th pa : Nat → Int32} {L : List Nat} {rk : Nat → Nat} (H : pd_BI th pa L rk) (de : Nat → Bool) : ((pd_ord pa L).filter de).length = ((List.range 12).filter (fun w => decide (th w ≠ 0) && de w)).length := by
  apply List.Perm.length_eq
  rw [List.perm_ext_iff_of_nodup (List.Nodup.sublist List.filter_sublist (pd_ordN H)) (List.Nodup.sublist List.filter_sublist List.nodup_range)]
  intro w
  rw [List.mem_filter, List.mem_filter, pd_ordM H, List.mem_range, Bool.and_eq_true, decide_eq_true_iff]
  constructor
  · rintro ⟨h, hd⟩
    have h12 := pd_12lt H.2.1 h
    exact ⟨h12, (H.2.2.1 w h12).mpr h, hd⟩
  · rintro ⟨h12, h, hd⟩
    exact ⟨(H.2.2.1 w h12).mp h, hd⟩
/-- a list drawn together in its array: A is kept, d comes to it -/
theorem pd_cmp {a : Nat → Int32} {b i d : Nat} {A R : List Nat} (hA : pd_sg a b A) (hR : pd_sg a (b + i) (d :: R)) (hl : A.length ≤ i) : pd_sg (upd a (b + A.length) (nI d)) b (A ++ [d]) ∧ pd_sg (upd a (b + A.length) (nI d)) (b + (i + 1)) R := by
  refine ⟨(pd_sg_a A [d] b).mpr ⟨pd_sg_c A b hA (fun j _ hj => pd_un (by omega)), pd_us, trivial⟩, ?_⟩
  exact pd_sg_c R (b + (i + 1)) hR.2 (fun j h1 _ => pd_un (by omega))
/-- what becomes of over, pressed, focus where widgets go -/
def pd_ovf (th : Nat → Int32) (o : Int32) : Int32 := if o = -1 then -1 else if th o.toNatClampNeg = 0 then -1 else o
theorem pd_ovu {th : Nat → Int32} {L : List Nat} (hL : ∀ w, w ∈ L → 0 < w ∧ w < 12) {o : Int32} (ho : o = -1 ∨ ∃ v, (v = 0 ∨ v ∈ L) ∧ o = nI v) {w : Nat} (hw : w < 12) : pd_ovf (upd th w 0) o = if pd_ovf th o = nI w then -1 else pd_ovf th o := by
  unfold pd_ovf
  cases ho with
  | inl e =>
    subst e
    rw [if_pos rfl, if_pos rfl, if_neg (pd_1ne (by omega))]
  | inr e =>
    obtain ⟨v, hv, rfl⟩ := e
    have hv12 := pd_12lt hL hv
    have hn : ¬ nI v = -1 := pd_ne1 (by omega)
    rw [if_neg hn, if_neg hn, pd_cl (by omega)]
    by_cases z : th v = 0
    · rw [if_pos z, if_neg (pd_1ne (by omega))]
      by_cases evw : v = w
      · subst evw; rw [pd_us, if_pos rfl]
      · rw [pd_un evw, if_pos z]
    · rw [if_neg z]
      by_cases evw : v = w
      · subst evw; rw [pd_us, if_pos rfl, if_pos rfl]
      · rw [pd_un evw, if_neg z, if_neg (fun h => evw (pd_im h (by omega) (by omega)))]
end PDC
end
section
section PDD
/-! I: the screen -/
abbrev pd_in (g : pd_V) (x y : Int32) : Prop := g.2.2.2.2.1 0 ≤ x ∧ x < g.2.2.2.2.2 0 ∧ g.2.2.2.2.1 1 ≤ y ∧ y < g.2.2.2.2.2 1
abbrev pd_cov (g : pd_V) (x y : Int32) : Prop := g.1 0 ≤ x ∧ x < g.1 0 + g.2.1 0 ∧ g.1 1 ≤ y ∧ y < g.1 1 + g.2.1 1
abbrev pd_rim (g : pd_V) (x y : Int32) : Prop := x = g.1 0 ∨ x = g.1 0 + g.2.1 0 - 1 ∨ y = g.1 1 ∨ y = g.1 1 + g.2.1 1 - 1
theorem pd_mx {s m x : Int32} : (if s < m then m else s) ≤ x ↔ s ≤ x ∧ m ≤ x := by
  by_cases h : s < m
  · rw [if_pos h]
    rw [Int32.lt_iff_toInt_lt] at h
    simp only [Int32.le_iff_toInt_le]
    omega
  · rw [if_neg h]
    rw [Int32.lt_iff_toInt_lt] at h
    simp only [Int32.le_iff_toInt_le]
    omega
theorem pd_mn {e m x : Int32} : x < (if m < e then m else e) ↔ x < e ∧ x < m := by
  by_cases h : m < e
  · rw [if_pos h]
    rw [Int32.lt_iff_toInt_lt] at h
    simp only [Int32.lt_iff_toInt_lt]
    omega
  · rw [if_neg h]
    rw [Int32.lt_iff_toInt_lt] at h
    simp only [Int32.lt_iff_toInt_lt]
    omega
/-- shown: SEEN and within the clip -/
abbrev pd_sho (g : pd_V) (x y : Int32) : Prop := ¬ g.2.2.1 = 0 ∧ pd_in g x y
theorem pd_10 {c : Prop} [Decidable c] : ¬ (if c then (1 : Int32) else 0) = 0 ↔ c := by
  by_cases h : c
  · rw [if_pos h]; exact ⟨fun _ => h, fun _ => by decide⟩
  · rw [if_neg h]; exact ⟨fun z => absurd rfl z, fun z => absurd z h⟩
theorem pd_sho0 {pa wp ws sh vi en la ga we : Nat → Int32} {L : List Nat} {G : Nat → pd_V} (hG : pd_LE pa wp ws sh vi en la ga we L G) (x y : Int32) : pd_sho (G 0) x y ↔ ¬ vi 0 = 0 ∧ pd_cov (G 0) x y := by
  rw [hG.1]
  simp only [pd_sho, pd_in, pd_cov, pd_R, pd_10]
theorem pd_shos {pa wp ws sh vi en la ga we : Nat → Int32} {L : List Nat} {G : Nat → pd_V} (hG : pd_LE pa wp ws sh vi en la ga we L G) {c p : Nat} (hc : c ∈ L) (hp : p = 0 ∨ p ∈ L) (e : pa c = nI p) (x y : Int32) : pd_sho (G c) x y ↔ (¬ vi c = 0 ∧ pd_cov (G c) x y) ∧ pd_sho (G p) x y := by
  rw [hG.2 c p hc hp e]
  simp only [pd_sho, pd_in, pd_cov, pd_F, pd_10, pd_mx, pd_mn]
  constructor
  · rintro ⟨⟨h1, h2⟩, ⟨h3, h4⟩, ⟨h5, h6⟩, ⟨h7, h8⟩, h9, h10⟩
    exact ⟨⟨h1, h3, h5, h7, h9⟩, h2, h4, h6, h8, h10⟩
  · rintro ⟨⟨h1, h3, h5, h7, h9⟩, h2, h4, h6, h8, h10⟩
    exact ⟨⟨h1, h2⟩, ⟨h3, h4⟩, ⟨h5, h6⟩, ⟨h7, h8⟩, h9, h10⟩
theorem pd_see {pa wp ws sh vi en la ga we : Nat → Int32} {L : List Nat} {G : Nat → pd_V} (hG : pd_LE pa wp ws sh vi en la ga we L G) {c p : Nat} (hc : c ∈ L) (hp : p = 0 ∨ p ∈ L) (e : pa c = nI p) : (G c).2.2.1 = if ¬ vi c = 0 ∧ ¬ (G p).2.2.1 = 0 then 1 else 0 := by
  rw [hG.2 c p hc hp e]; rfl
theorem pd_abl {pa wp ws sh vi en la ga we : Nat → Int32} {L : List Nat} {G : Nat → pd_V} (hG : pd_LE pa wp ws sh vi en la ga we L G) {c p : Nat} (hc : c ∈ L) (hp : p = 0 ∨ p ∈ L) (e : pa c = nI p) : (G c).2.2.2.1 = if ¬ en c = 0 ∧ ¬ (G p).2.2.2.1 = 0 then 1 else 0 := by
  rw [hG.2 c p hc hp e]; rfl
/-- the uppermost of a list that is shown there -/
def pd_fa (G : Nat → pd_V) (x y : Int32) : List Nat → Int32 → Int32
  | [], f => f
  | w :: R, f => pd_fa G x y R (if pd_sho (G w) x y then nI w else f)
theorem pd_faN {G : Nat → pd_V} {x y : Int32} : ∀ (R : List Nat) (f : Int32), (∀ w, w ∈ R → ¬ pd_sho (G w) x y) → pd_fa G x y R f = f
  | [], _, _ => rfl
  | w :: R, f, h => by
    simp only [pd_fa]
    rw [if_neg (h w (List.mem_cons_self ..))]
    exact pd_faN R f (fun v hv => h v (List.mem_cons_of_mem _ hv))
theorem pd_faM {G : Nat → pd_V} {x y : Int32} : ∀ (R : List Nat) (f : Int32), pd_fa G x y R f = f ∨ ∃ w, w ∈ R ∧ pd_fa G x y R f = nI w
  | [], _ => Or.inl rfl
  | w :: R, f => by
    simp only [pd_fa]
    cases pd_faM (G := G) (x := x) (y := y) R (if pd_sho (G w) x y then nI w else f) with
    | inl h =>
      rw [h]
      by_cases c : pd_sho (G w) x y
      · rw [if_pos c]; exact Or.inr ⟨w, List.mem_cons_self .., rfl⟩
      · rw [if_neg c]; exact Or.inl rfl
    | inr h =>
      obtain ⟨v, hv, e⟩ := h
      exact Or.inr ⟨v, List.mem_cons_of_mem _ hv, e⟩
def pd_shd (kd on co : Nat → Int32) (pr ov : Int32) (G : Nat → pd_V) (w : Nat) : Int32 :=
  if (G w).2.2.2.1 = 0 then (if (kd w = 2 ∧ ¬ on w = 0) ∨ (kd w = 1 ∧ pr = nI w ∧ ov = nI w) then co w ^^^ 8 else co w) &&& 7
  else (if (kd w = 2 ∧ ¬ on w = 0) ∨ (kd w = 1 ∧ pr = nI w ∧ ov = nI w) then co w ^^^ 8 else co w)
def pd_px1 (kd on co : Nat → Int32) (pr ov fo : Int32) (G : Nat → pd_V) (w : Nat) (x y c : Int32) : Int32 :=
  if pd_sho (G w) x y then (if fo = nI w ∧ pd_rim (G w) x y then 15 else if co w = 0 then c else pd_shd kd on co pr ov G w) else c
def pd_px (kd on co : Nat → Int32) (pr ov fo : Int32) (G : Nat → pd_V) (x y : Int32) : List Nat → Int32 → Int32
  | [], c => c
  | w :: R, c => pd_px kd on co pr ov fo G x y R (pd_px1 kd on co pr ov fo G w x y c)
/-- nothing is shown outside the screen -/
theorem pd_off {th pa wp ws sh vi en la ga we : Nat → Int32} {L : List Nat} {rk : Nat → Nat} {G : Nat → pd_V} (H : pd_BI th pa L rk) (hG : pd_LE pa wp ws sh vi en la ga we L G) (h0 : wp 0 = 0) (h1 : wp 1 = 0) (h2 : ws 0 = 32) (h3 : ws 1 = 16) {w : Nat} (hw : w = 0 ∨ w ∈ L) {x y : Int32} (hs : pd_sho (G w) x y) : (0 ≤ x ∧ x < 32) ∧ 0 ≤ y ∧ y < 16 := by
  obtain ⟨_, a1, a2, a3, a4⟩ := hs
  obtain ⟨c1, c2⟩ := pd_LEc H hG 0 0 32 h0 (by rw [h0, h2]; decide) w hw
  obtain ⟨c3, c4⟩ := pd_LEc H hG 1 0 16 h1 (by rw [h1, h3]; decide) w hw
  exact ⟨⟨Int32.le_trans c1 a1, Int32.lt_of_lt_of_le a2 c2⟩, Int32.le_trans c3 a3, Int32.lt_of_lt_of_le a4 c4⟩
/-! J: what the drawing, the moving and the dropping loops leave -/
def pd_A (R : Nat → Prop) [DecidablePred R] (T p : Nat → Int32) (i j : Nat) : Nat → Int32 := fun q => if q < 512 ∧ R q ∧ (q / 32 < i ∨ q / 32 = i ∧ q % 32 < j) then T q else p q
theorem pd_Ac (R : Nat → Prop) [DecidablePred R] {T p : Nat → Int32} {i j k l : Nat} (h : ∀ q, q < 512 → R q → ((q / 32 < i ∨ q / 32 = i ∧ q % 32 < j) ↔ (q / 32 < k ∨ q / 32 = k ∧ q % 32 < l))) : pd_A R T p i j = pd_A R T p k l := by
  funext q
  unfold pd_A
  have e : (q < 512 ∧ R q ∧ (q / 32 < i ∨ q / 32 = i ∧ q % 32 < j)) ↔ (q < 512 ∧ R q ∧ (q / 32 < k ∨ q / 32 = k ∧ q % 32 < l)) :=
    ⟨fun ⟨a, b, c⟩ => ⟨a, b, (h q a b).mp c⟩, fun ⟨a, b, c⟩ => ⟨a, b, (h q a b).mpr c⟩⟩
  simp only [e]
theorem pd_A1 (R : Nat → Prop) [DecidablePred R] {T p : Nat → Int32} {i j : Nat} (hi : i < 16) (hj : j < 32) (hR : R (32 * i + j)) : upd (pd_A R T p i j) (32 * i + j) (T (32 * i + j)) = pd_A R T p i (j + 1) := by
  funext q
  by_cases e : q = 32 * i + j
  · subst e
    rw [pd_us]
    unfold pd_A
    rw [if_pos ⟨by omega, hR, by omega⟩]
  · rw [pd_un e]
    unfold pd_A
    have h : (q < 512 ∧ R q ∧ (q / 32 < i ∨ q / 32 = i ∧ q % 32 < j)) ↔ (q < 512 ∧ R q ∧ (q / 32 < i ∨ q / 32 = i ∧ q % 32 < j + 1)) := by
      refine and_congr_right fun _ => and_congr_right fun _ => ?_
      omega
    simp only [h]
theorem pd_A2 (R : Nat → Prop) [DecidablePred R] {T p : Nat → Int32} {i j : Nat} (hi : i < 16) (hj : j < 32) (hT : T (32 * i + j) = p (32 * i + j)) : pd_A R T p i j = pd_A R T p i (j + 1) := by
  funext q
  unfold pd_A
  by_cases e : q = 32 * i + j
  · subst e
    rw [if_neg (by omega)]
    by_cases h : 32 * i + j < 512 ∧ R (32 * i + j) ∧ ((32 * i + j) / 32 < i ∨ (32 * i + j) / 32 = i ∧ (32 * i + j) % 32 < j + 1)
    · rw [if_pos h, hT]
    · rw [if_neg h]
  · have h : (q < 512 ∧ R q ∧ (q / 32 < i ∨ q / 32 = i ∧ q % 32 < j)) ↔ (q < 512 ∧ R q ∧ (q / 32 < i ∨ q / 32 = i ∧ q % 32 < j + 1)) := by
      refine and_congr_right fun _ => and_congr_right fun _ => ?_
      omega
    simp only [h]
theorem pd_A0 (R : Nat → Prop) [DecidablePred R] {T p : Nat → Int32} {i j : Nat} (h : ∀ q, q < 512 → R q → i ≤ q / 32 ∧ j ≤ q % 32) : pd_A R T p i j = p := by
  funext q
  unfold pd_A
  refine if_neg fun ⟨a, b, c⟩ => ?_
  have := h q a b
  omega
theorem pd_A9 (R : Nat → Prop) [DecidablePred R] {T p : Nat → Int32} {i j : Nat} (h : ∀ q, q < 512 → R q → q / 32 < i) (hT : ∀ q, q < 512 → ¬ R q → T q = p q) : pd_A R T p i j = fun q => if q < 512 then T q else p q := by
  funext q
  unfold pd_A
  by_cases a : q < 512
  · by_cases b : R q
    · rw [if_pos ⟨a, b, Or.inl (h q a b)⟩, if_pos a]
    · rw [if_neg (fun z => b z.2.1), if_pos a, hT q a b]
  · rw [if_neg (fun z => a z.1), if_neg a]
/-- a piece filled from below -/
def pd_Z (C p : Nat → Int32) (i : Nat) : Nat → Int32 := fun q => if q < i then C q else p q
theorem pd_Z0 (C p : Nat → Int32) : pd_Z C p 0 = p := by
  funext q; exact if_neg (by omega)
theorem pd_Z1 (C p : Nat → Int32) (i : Nat) : upd (pd_Z C p i) i (C i) = pd_Z C p (i + 1) := by
  funext q
  by_cases e : q = i
  · subst e; rw [pd_us]; exact (if_pos (by omega)).symm
  · rw [pd_un e]
    unfold pd_Z
    have h : q < i ↔ q < i + 1 := by omega
    simp only [h]
/-- all moved down by c, so far up to i -/
def pd_S (f : Nat → Int32) (c i : Nat) : Nat → Int32 := fun j => if j + c < i then f (j + c) else f j
theorem pd_S0 (f : Nat → Int32) (c : Nat) : pd_S f c c = f := by
  funext j; exact if_neg (by omega)
theorem pd_Sg (f : Nat → Int32) {c i : Nat} : pd_S f c i i = f i := if_neg (by omega)
theorem pd_S1 (f : Nat → Int32) {c i : Nat} (h : c ≤ i) : upd (pd_S f c i) (i - c) (f i) = pd_S f c (i + 1) := by
  funext j
  by_cases e : j = i - c
  · subst e
    rw [pd_us]
    unfold pd_S
    rw [if_pos (by omega), show i - c + c = i by omega]
  · rw [pd_un e]
    unfold pd_S
    have h : j + c < i ↔ j + c < i + 1 := by omega
    simp only [h]
/-- all from i on moved up by one, so far down to i -/
def pd_H (f : Nat → Int32) (n i : Nat) : Nat → Int32 := fun j => if i < j ∧ j ≤ n then f (j - 1) else f j
theorem pd_H0 (f : Nat → Int32) (n : Nat) : pd_H f n n = f := by
  funext j; exact if_neg (by omega)
theorem pd_Hg (f : Nat → Int32) {n i : Nat} (h : 0 < i) : pd_H f n i (i - 1) = f (i - 1) := if_neg (by omega)
theorem pd_H1 (f : Nat → Int32) {n i : Nat} (h : i + 1 ≤ n) : upd (pd_H f n (i + 1)) (i + 1) (f i) = pd_H f n i := by
  funext j
  by_cases e : j = i + 1
  · subst e
    rw [pd_us]
    unfold pd_H
    rw [if_pos (by omega)]
    rfl
  · rw [pd_un e]
    unfold pd_H
    have h : (i + 1 < j ∧ j ≤ n) ↔ (i < j ∧ j ≤ n) := by omega
    simp only [h]
theorem pd_Hsg {f : Nat → Int32} {A B : List Nat} {w : Nat} (h : pd_sg f 0 (A ++ B)) : pd_sg (upd (pd_H f (A.length + B.length) A.length) A.length (nI w)) 0 (A ++ w :: B) := by
  refine pd_sg_i h (fun j hj => ?_) pd_us (fun j h1 h2 => ?_)
  · rw [pd_un (by omega)]; exact if_neg (by omega)
  · rw [pd_un (by omega)]; exact if_pos (by omega)
end PDD
end
section
section PDE
/-! K: the relation -/
def pd_SP (L : List Nat) (x : Int32) : Prop := x = -1 ∨ ∃ w, (w = 0 ∨ w ∈ L) ∧ x = nI w
def pd_ST (n : Int32) (a : Nat → Int32) (L : List Nat) : Prop := n = nI L.length ∧ pd_sg a 0 L
def pd_KD (pa kc ki : Nat → Int32) (L : List Nat) : Prop := ∀ p, (p = 0 ∨ p ∈ L) → kc p = nI (pd_kd pa L p).length ∧ pd_sg ki (12 * p) (pd_kd pa L p)
def pd_VA (wp ws we la ta sh : Nat → Int32) : Prop :=
  (wp 0 = 0 ∧ wp 1 = 0 ∧ ws 0 = 32 ∧ ws 1 = 16) ∧ (∀ c, c < 12 → ∃ k, k ≤ 3 ∧ we c = nI k) ∧ (∀ c, c < 12 → ∃ k, k ≤ 2 ∧ la c = nI k) ∧
  (∀ c, c < 12 → ∃ k, k < 12 ∧ ta c = nI k) ∧ (∀ j, j < 24 → sh j ≤ 20)
def pd_QU (nx ny : Int32) (ek ex ey ev : Nat → Int32) : Prop := ∃ q, q ≤ 16 ∧ nx = nI q ∧ ny = nI q ∧
  ∀ i, i < q → (∃ k, k ≤ 4 ∧ ek i = nI k) ∧ ev (3 * i) = ek i ∧ ev (3 * i + 1) = ex i ∧ ev (3 * i + 2) = ey i
def pd_DA (G : Nat → pd_V) (se ab pl sz cs ce : Nat → Int32) (w : Nat) : Prop :=
  (∀ a, a < 2 → pl (2 * w + a) = (G w).1 a ∧ sz (2 * w + a) = (G w).2.1 a ∧ cs (2 * w + a) = (G w).2.2.2.2.1 a ∧ ce (2 * w + a) = (G w).2.2.2.2.2 a) ∧ se w = (G w).2.2.1 ∧ ab w = (G w).2.2.2.1
def pd_DE (pa wp ws sh vi en la ga we : Nat → Int32) (L : List Nat) (tn : Int32) (tr se ab pl sz cs ce : Nat → Int32) : Prop :=
  ∃ G, pd_LE pa wp ws sh vi en la ga we L G ∧ tn = nI (pd_ord pa L).length ∧ pd_sg tr 0 (pd_ord pa L) ∧ ∀ w, (w = 0 ∨ w ∈ L) → pd_DA G se ab pl sz cs ce w
/-- all but what settle() works out -/
def pd_Mid (L : List Nat) (rk : Nat → Nat) (u : SX) (v : SY) : Prop := match u with
  | (f_stacked, f_treeSize, f_over, f_pressed, f_focus, f_waiting, f_noteCount, a_there, a_parents, a_kinds, a_colours, a_weights, a_gaps, a_layouts, a_values, a_effects, a_targets, a_visible, a_enabled, a_on, a_wishedPlaces, a_wishedSizes, a_shifts, a_stack, a_tree, a_seen, a_able, a_places, a_sizes, a_clipStarts, a_clipEnds, a_eventKinds, a_eventXs, a_eventYs, a_notes, a_pixels) => ∃ (g_many g_waiting g_acted : Int32) (b_kids b_kidCount b_left b_top b_width b_height b_order b_stack b_events : Nat → Int32), v = (g_many, g_waiting, f_noteCount, f_over, f_pressed, f_focus, g_acted, a_there, a_kinds, (fun j => a_wishedPlaces (2 * j)), (fun j => a_wishedPlaces (2 * j + 1)), (fun j => a_wishedSizes (2 * j)), (fun j => a_wishedSizes (2 * j + 1)), a_colours, a_layouts, a_gaps, a_weights, (fun j => a_shifts (2 * j)), (fun j => a_shifts (2 * j + 1)), a_visible, a_enabled, a_on, a_values, a_parents, a_effects, a_targets, b_kids, b_kidCount, b_left, b_top, b_width, b_height, b_order, b_stack, a_pixels, b_events, a_notes) ∧
      pd_BI a_there a_parents L rk ∧ pd_ST f_stacked a_stack L ∧ pd_KD a_parents b_kidCount b_kids L ∧
      pd_VA a_wishedPlaces a_wishedSizes a_weights a_layouts a_targets a_shifts ∧ pd_SP L f_over ∧ pd_SP L f_pressed ∧ pd_SP L f_focus ∧
      pd_QU f_waiting g_waiting a_eventKinds a_eventXs a_eventYs b_events
def pd_DX (L : List Nat) (u : SX) : Prop := match u with
  | (f_stacked, f_treeSize, f_over, f_pressed, f_focus, f_waiting, f_noteCount, a_there, a_parents, a_kinds, a_colours, a_weights, a_gaps, a_layouts, a_values, a_effects, a_targets, a_visible, a_enabled, a_on, a_wishedPlaces, a_wishedSizes, a_shifts, a_stack, a_tree, a_seen, a_able, a_places, a_sizes, a_clipStarts, a_clipEnds, a_eventKinds, a_eventXs, a_eventYs, a_notes, a_pixels) => pd_DE a_parents a_wishedPlaces a_wishedSizes a_shifts a_visible a_enabled a_layouts a_gaps a_weights L f_treeSize a_tree a_seen a_able a_places a_sizes a_clipStarts a_clipEnds
def i_Rel (_ : Nat) (u : SX) (v : SY) : Prop := ∃ L rk, pd_Mid L rk u v ∧ pd_DX L u
theorem i_up {k : Nat} {u : SX} {v : SY} (h : i_Rel k u v) : i_Rel (k + 8) u v := h
theorem pd_SPin {L : List Nat} {rk : Nat → Nat} {th pa : Nat → Int32} (H : pd_BI th pa L rk) {x : Int32} (h : pd_SP L x) (hx : ¬ x = -1) : ∃ w, w < 12 ∧ (w = 0 ∨ w ∈ L) ∧ x = nI w := by
  cases h with
  | inl e => exact absurd e hx
  | inr e =>
    obtain ⟨w, hw, ew⟩ := e
    exact ⟨w, pd_12lt H.2.1 hw, hw, ew⟩
/-- an index that is a widget's -/
theorem pd_isx {x : Int32} (h0 : 0 ≤ x) (h1 : x < 12) : ∃ w, w < 12 ∧ x = nI w := by
  obtain ⟨j, hj, rfl⟩ := nI_of (x := x) (Int32.not_lt.mpr h0)
  refine ⟨j, ?_, rfl⟩
  rw [show (12 : Int32) = nI 12 from rfl, nI_ltI hj (by omega)] at h1
  exact h1
/-! L: a write that writes the content's value keeps what agrees with it -/
def pd_Mo (f f' g : Nat → Int32) : Prop := ∀ j, f j = g j → f' j = g j
theorem pd_Mo_r (f g : Nat → Int32) : pd_Mo f f g := fun _ h => h
theorem pd_Mo_t {f f' f'' g : Nat → Int32} (h : pd_Mo f f' g) (h' : pd_Mo f' f'' g) : pd_Mo f f'' g := fun j e => h' j (h j e)
theorem pd_Mo_u {f g : Nat → Int32} {k : Nat} {x : Int32} (h : x = g k) : pd_Mo f (upd f k x) g := by
  intro j e
  by_cases z : j = k
  · subst z; rw [pd_us, h]
  · rw [pd_un z, e]
def pd_cP (G : Nat → pd_V) : Nat → Int32 := fun j => (G (j / 2)).1 (j % 2)
def pd_cS (G : Nat → pd_V) : Nat → Int32 := fun j => (G (j / 2)).2.1 (j % 2)
def pd_cC (G : Nat → pd_V) : Nat → Int32 := fun j => (G (j / 2)).2.2.2.2.1 (j % 2)
def pd_cE (G : Nat → pd_V) : Nat → Int32 := fun j => (G (j / 2)).2.2.2.2.2 (j % 2)
theorem pd_h2 {c a : Nat} (ha : a < 2) : (2 * c + a) / 2 = c ∧ (2 * c + a) % 2 = a := by omega
theorem pd_cPa (G : Nat → pd_V) {c a : Nat} (ha : a < 2) : pd_cP G (2 * c + a) = (G c).1 a := by
  unfold pd_cP; rw [(pd_h2 ha).1, (pd_h2 ha).2]
theorem pd_cSa (G : Nat → pd_V) {c a : Nat} (ha : a < 2) : pd_cS G (2 * c + a) = (G c).2.1 a := by
  unfold pd_cS; rw [(pd_h2 ha).1, (pd_h2 ha).2]
theorem pd_cCa (G : Nat → pd_V) {c a : Nat} (ha : a < 2) : pd_cC G (2 * c + a) = (G c).2.2.2.2.1 a := by
  unfold pd_cC; rw [(pd_h2 ha).1, (pd_h2 ha).2]
theorem pd_cEa (G : Nat → pd_V) {c a : Nat} (ha : a < 2) : pd_cE G (2 * c + a) = (G c).2.2.2.2.2 a := by
  unfold pd_cE; rw [(pd_h2 ha).1, (pd_h2 ha).2]
/-- place and size of c agree -/
def pd_PA (G : Nat → pd_V) (pl sz : Nat → Int32) (c : Nat) : Prop := ∀ a, a < 2 → pl (2 * c + a) = (G c).1 a ∧ sz (2 * c + a) = (G c).2.1 a
/-- what inherit() works out agrees -/
def pd_CA (G : Nat → pd_V) (se ab cs ce : Nat → Int32) (w : Nat) : Prop := se w = (G w).2.2.1 ∧ ab w = (G w).2.2.2.1 ∧ ∀ a, a < 2 → cs (2 * w + a) = (G w).2.2.2.2.1 a ∧ ce (2 * w + a) = (G w).2.2.2.2.2 a
theorem pd_PAm {G : Nat → pd_V} {pl sz pl' sz' : Nat → Int32} (hp : pd_Mo pl pl' (pd_cP G)) (hs : pd_Mo sz sz' (pd_cS G)) {c : Nat} (h : pd_PA G pl sz c) : pd_PA G pl' sz' c := fun a ha =>
  ⟨(hp _ ((h a ha).1.trans (pd_cPa G ha).symm)).trans (pd_cPa G ha), (hs _ ((h a ha).2.trans (pd_cSa G ha).symm)).trans (pd_cSa G ha)⟩
theorem pd_DApc {G : Nat → pd_V} {se ab pl sz cs ce : Nat → Int32} {w : Nat} (h1 : pd_PA G pl sz w) (h2 : pd_CA G se ab cs ce w) : pd_DA G se ab pl sz cs ce w :=
  ⟨fun a ha => ⟨(h1 a ha).1, (h1 a ha).2, (h2.2.2 a ha).1, (h2.2.2 a ha).2⟩, h2.1, h2.2.1⟩
end PDE
end
section
section PDF
variable {f_stacked f_treeSize f_over f_pressed f_focus f_waiting f_noteCount : Int32} {a_there a_parents a_kinds a_colours a_weights a_gaps a_layouts a_values a_effects a_targets a_visible a_enabled a_on a_wishedPlaces a_wishedSizes a_shifts a_stack a_tree a_seen a_able a_places a_sizes a_clipStarts a_clipEnds a_eventKinds a_eventXs a_eventYs a_notes a_pixels : Nat → Int32}
/-! M: X: the tree's order -/
theorem pd_Hg' (f : Nat → Int32) {n i : Nat} : pd_H f n (i + 1) i = f i := if_neg (by omega)
theorem px_ins5 {post : SX → Prop} {p q w : Nat} (f : Nat → Int32) (hN : p + q < 12)
    (h : post (f_stacked, nI (p + q + 1), f_over, f_pressed, f_focus, f_waiting, f_noteCount, a_there, a_parents, a_kinds, a_colours, a_weights, a_gaps, a_layouts, a_values, a_effects, a_targets, a_visible, a_enabled, a_on, a_wishedPlaces, a_wishedSizes, a_shifts, a_stack, upd (pd_H f (p + q) p) p (nI w), a_seen, a_able, a_places, a_sizes, a_clipStarts, a_clipEnds, a_eventKinds, a_eventXs, a_eventYs, a_notes, a_pixels)) :
    ∀ (d n : Nat), d ≤ q → d < n → wX_insertInTree_5 post (nI p) (nI w) f_stacked (nI (p + q)) f_over f_pressed f_focus f_waiting f_noteCount n (nI (p + d)) a_there a_parents a_kinds a_colours a_weights a_gaps a_layouts a_values a_effects a_targets a_visible a_enabled a_on a_wishedPlaces a_wishedSizes a_shifts a_stack (pd_H f (p + q) (p + d)) a_seen a_able a_places a_sizes a_clipStarts a_clipEnds a_eventKinds a_eventXs a_eventYs a_notes a_pixels := by
  intro d
  induction d with
  | zero =>
    intro n h1 h2
    obtain ⟨n, rfl⟩ : ∃ m, n = m + 1 := ⟨n - 1, by omega⟩
    rw [wX_insertInTree_5]
    exact br_t (nI_le (by omega) (by omega)) ⟨vp_in_nI (by omega) (by omega), nm_r (e' := upd (pd_H f (p + q) p) p (nI w)) (by rw [pd_cl (by omega)]; rfl) (nm_r (nI_1 _) h)⟩
  | succ d ih =>
    intro n h1 h2
    obtain ⟨n, rfl⟩ : ∃ m, n = m + 1 := ⟨n - 1, by omega⟩
    rw [wX_insertInTree_5]
    have e1 : nI (p + (d + 1)) - 1 = nI (p + d) := nI_pred (p + d)
    refine br_f (nI_ge (by omega) (by omega)) ⟨by rw [e1]; exact vp_in_nI (by omega) (by omega), vp_in_nI (by omega) (by omega), nm_r (e' := pd_H f (p + q) (p + d)) ?_ (nm_r (pd_m1 (p + d)) (ih n (by omega) (by omega)))⟩
    rw [e1, pd_cl (by omega), pd_cl (by omega)]
    show upd (pd_H f (p + q) (p + d + 1)) (p + d + 1) (pd_H f (p + q) (p + d + 1) (p + d)) = _
    rw [pd_Hg']
    exact pd_H1 f (by omega)
theorem px_insT {post : SX → Prop} {A B : List Nat} {p t w : Nat} (hp : p = A.length) (ht : t = A.length + B.length) (hN : t < 12) (hs : pd_sg a_tree 0 (A ++ B))
    (h : ∀ tr, pd_sg tr 0 (A ++ w :: B) → post (f_stacked, nI (t + 1), f_over, f_pressed, f_focus, f_waiting, f_noteCount, a_there, a_parents, a_kinds, a_colours, a_weights, a_gaps, a_layouts, a_values, a_effects, a_targets, a_visible, a_enabled, a_on, a_wishedPlaces, a_wishedSizes, a_shifts, a_stack, tr, a_seen, a_able, a_places, a_sizes, a_clipStarts, a_clipEnds, a_eventKinds, a_eventXs, a_eventYs, a_notes, a_pixels)) :
    wpX_insertInTree post (f_stacked, nI t, f_over, f_pressed, f_focus, f_waiting, f_noteCount, a_there, a_parents, a_kinds, a_colours, a_weights, a_gaps, a_layouts, a_values, a_effects, a_targets, a_visible, a_enabled, a_on, a_wishedPlaces, a_wishedSizes, a_shifts, a_stack, a_tree, a_seen, a_able, a_places, a_sizes, a_clipStarts, a_clipEnds, a_eventKinds, a_eventXs, a_eventYs, a_notes, a_pixels) (nI p) (nI w) := by
  subst hp ht
  have k := px_ins5 (post := post) (p := A.length) (q := B.length) (w := w) a_tree hN (h _ (pd_Hsg hs)) B.length (B.length + 1) (Nat.le_refl _) (by omega)
  rw [pd_H0] at k
  exact ⟨B.length + 1, k⟩
theorem px_insC6 {post : SX → Prop} {A B : List Nat} {w N p : Nat} (hp : p = A.length) (hN : N ≤ 12) :
    ∀ (R C : List Nat) (i k t n : Nat) (tr : Nat → Int32), pd_sg a_stack i R → i + R.length = N → R.length < n → (∀ c, c ∈ R → c < 12) → pd_sg tr 0 (A ++ w :: (C ++ B)) →
    k = A.length + 1 + C.length → t = A.length + 1 + C.length + B.length → t + (pd_kd a_parents R w).length ≤ 12 →
    (∀ tr', pd_sg tr' 0 (A ++ w :: (C ++ pd_kd a_parents R w ++ B)) → post (nI N, nI (t + (pd_kd a_parents R w).length), f_over, f_pressed, f_focus, f_waiting, f_noteCount, a_there, a_parents, a_kinds, a_colours, a_weights, a_gaps, a_layouts, a_values, a_effects, a_targets, a_visible, a_enabled, a_on, a_wishedPlaces, a_wishedSizes, a_shifts, a_stack, tr', a_seen, a_able, a_places, a_sizes, a_clipStarts, a_clipEnds, a_eventKinds, a_eventXs, a_eventYs, a_notes, a_pixels)) →
    wX_insertChildren_6 post (nI p) n (nI k) (nI i) (nI N) (nI t) f_over f_pressed f_focus f_waiting f_noteCount a_there a_parents a_kinds a_colours a_weights a_gaps a_layouts a_values a_effects a_targets a_visible a_enabled a_on a_wishedPlaces a_wishedSizes a_shifts a_stack tr a_seen a_able a_places a_sizes a_clipStarts a_clipEnds a_eventKinds a_eventXs a_eventYs a_notes a_pixels := by
  subst hp
  intro R
  induction R with
  | nil =>
    intro C i k t n tr _ hi hn _ hs _ _ _ h
    obtain ⟨n, rfl⟩ : ∃ m, n = m + 1 := ⟨n - 1, by omega⟩
    rw [wX_insertChildren_6]
    have hi' : i = N := hi
    refine br_t (by rw [hi']; exact Int32.le_refl _) ?_
    have h' := h tr (by simpa [pd_kd] using hs)
    simpa [pd_kd] using h'
  | cons c R ih =>
    intro C i k t n tr hst hi hn hc hs hk ht hl h
    obtain ⟨n, rfl⟩ : ∃ m, n = m + 1 := ⟨n - 1, by omega⟩
    rw [List.length_cons] at hi hn
    have hc12 : c < 12 := hc c (List.mem_cons_self ..)
    have es : a_stack (nI i).toNatClampNeg = nI c := by rw [pd_cl (by omega)]; exact hst.1
    have et : tr (nI A.length).toNatClampNeg = nI w := by
      rw [pd_cl (by omega)]
      have z := ((pd_sg_a A (w :: (C ++ B)) 0).mp hs).2
      rw [Nat.zero_add] at z
      exact z.1
    rw [wX_insertChildren_6]
    dsimp only
    rw [es, pd_cl (n := c) (by omega), et]
    refine br_f (nI_ge (by omega) (by omega)) ⟨vp_in_nI (by omega) (by omega), vp_in_nI hc12 (by omega), vp_in_nI (by omega) (by omega), ?_⟩
    by_cases hp : a_parents c = nI w
    · have ek : pd_kd a_parents (c :: R) w = c :: pd_kd a_parents R w := by unfold pd_kd; simp [hp]
      rw [ek, List.length_cons] at hl
      refine br_t hp ⟨vp_in_nI (by omega) (by omega), ?_⟩
      refine px_insT (A := A ++ w :: C) (B := B) (by simp; omega) (by simp; omega) (by omega) (by simpa using hs) (fun tr' hs' => ?_)
      refine nm_r (nI_1 k) (nm_r (nI_1 i) ?_)
      refine ih (C ++ [c]) (i + 1) (k + 1) (t + 1) n tr' hst.2 (by omega) (by omega) (fun d hd => hc d (List.mem_cons_of_mem _ hd)) (by simpa using hs') (by simp; omega) (by simp; omega) (by omega) (fun tr2 h2 => ?_)
      have h' := h tr2 (by rw [ek]; simpa using h2)
      rw [ek, List.length_cons, show t + ((pd_kd a_parents R w).length + 1) = t + 1 + (pd_kd a_parents R w).length by omega] at h'
      exact h'
    · have ek : pd_kd a_parents (c :: R) w = pd_kd a_parents R w := by unfold pd_kd; simp [hp]
      rw [ek] at hl h
      refine br_f hp (nm_r (nI_1 i) ?_)
      exact ih C (i + 1) k t n tr hst.2 (by omega) (by omega) (fun d hd => hc d (List.mem_cons_of_mem _ hd)) hs hk ht hl h
theorem px_ord14 {post : SX → Prop} {L : List Nat} {rk : Nat → Nat} (H : pd_BI a_there a_parents L rk) (hst : pd_sg a_stack 0 L) :
    ∀ (m : Nat) (D T : List Nat) (p t n : Nat) (tr : Nat → Int32), m + D.length = 12 → pd_WL a_parents L D T → m < n → pd_sg tr 0 (D ++ T) → p = D.length → t = D.length + T.length →
    (∀ tr', pd_sg tr' 0 (pd_run a_parents L m D T) → post (nI L.length, nI (pd_run a_parents L m D T).length, f_over, f_pressed, f_focus, f_waiting, f_noteCount, a_there, a_parents, a_kinds, a_colours, a_weights, a_gaps, a_layouts, a_values, a_effects, a_targets, a_visible, a_enabled, a_on, a_wishedPlaces, a_wishedSizes, a_shifts, a_stack, tr', a_seen, a_able, a_places, a_sizes, a_clipStarts, a_clipEnds, a_eventKinds, a_eventXs, a_eventYs, a_notes, a_pixels)) →
    wX_orderTree_14 post n (nI p) (nI L.length) (nI t) f_over f_pressed f_focus f_waiting f_noteCount a_there a_parents a_kinds a_colours a_weights a_gaps a_layouts a_values a_effects a_targets a_visible a_enabled a_on a_wishedPlaces a_wishedSizes a_shifts a_stack tr a_seen a_able a_places a_sizes a_clipStarts a_clipEnds a_eventKinds a_eventXs a_eventYs a_notes a_pixels := by
  have hL := pd_len11 H.1 H.2.1
  intro m
  induction m with
  | zero =>
    intro D T p t n tr hm hW hn hs hp ht h
    obtain ⟨n, rfl⟩ : ∃ k, n = k + 1 := ⟨n - 1, by omega⟩
    have hl := pd_WLlen H hW
    have e : T = [] := List.length_eq_zero_iff.mp (by omega)
    subst e hp ht
    rw [wX_orderTree_14]
    refine br_t (nI_le (a := 12) (by omega) (by omega)) ?_
    have h' := h tr (by simpa [pd_run] using hs)
    simpa [pd_run] using h'
  | succ m ih =>
    intro D T p t n tr hm hW hn hs hp ht h
    obtain ⟨n, rfl⟩ : ∃ k, n = k + 1 := ⟨n - 1, by omega⟩
    rw [wX_orderTree_14]
    refine br_f (nI_ge (b := 12) (by omega) (by omega)) ?_
    cases T with
    | nil =>
      subst hp ht
      refine br_t (nI_le (by simp) (by omega)) ?_
      have h' := h tr (by simpa [pd_run] using hs)
      simpa [pd_run] using h'
    | cons w R =>
      rw [List.length_cons] at ht
      have hW' := pd_WLs H hW
      have hl := pd_WLlen H hW'
      rw [List.length_append, List.length_append, List.length_singleton] at hl
      refine br_f (nI_ge (by omega) (by omega)) ?_
      refine nm_r (nI_1 p) ⟨L.length + 1, px_insC6 (A := D) (B := R) (w := w) hp (by omega) L [] 0 (p + 1) t (L.length + 1) tr hst (by omega) (by omega) (fun c hc => (H.2.1 c hc).2) (by simpa using hs) (by simp; omega) (by simp; omega) (by omega) (fun tr' hs' => ?_)⟩
      refine nm_r (nI_1 p) ?_
      refine ih (D ++ [w]) (pd_kd a_parents L w ++ R) (p + 1) _ n tr' (by rw [List.length_append, List.length_singleton]; omega) hW' (by omega) (by simpa using hs') (by rw [List.length_append, List.length_singleton]; omega) (by simp; omega) (fun tr2 h2 => ?_)
      exact h tr2 h2
theorem px_order {post : SX → Prop} {L : List Nat} {rk : Nat → Nat} (H : pd_BI a_there a_parents L rk) (hst : pd_ST f_stacked a_stack L)
    (h : ∀ tr, pd_sg tr 0 (pd_ord a_parents L) → post (f_stacked, nI (pd_ord a_parents L).length, f_over, f_pressed, f_focus, f_waiting, f_noteCount, a_there, a_parents, a_kinds, a_colours, a_weights, a_gaps, a_layouts, a_values, a_effects, a_targets, a_visible, a_enabled, a_on, a_wishedPlaces, a_wishedSizes, a_shifts, a_stack, tr, a_seen, a_able, a_places, a_sizes, a_clipStarts, a_clipEnds, a_eventKinds, a_eventXs, a_eventYs, a_notes, a_pixels)) : wpX_orderTree post (f_stacked, f_treeSize, f_over, f_pressed, f_focus, f_waiting, f_noteCount, a_there, a_parents, a_kinds, a_colours, a_weights, a_gaps, a_layouts, a_values, a_effects, a_targets, a_visible, a_enabled, a_on, a_wishedPlaces, a_wishedSizes, a_shifts, a_stack, a_tree, a_seen, a_able, a_places, a_sizes, a_clipStarts, a_clipEnds, a_eventKinds, a_eventXs, a_eventYs, a_notes, a_pixels) := by
  obtain ⟨rfl, hs⟩ := hst
  refine nm_r (e' := upd a_tree 0 0) rfl ⟨13, ?_⟩
  exact px_ord14 H hs 12 [] [0] 0 1 13 _ rfl (pd_WL0 _ _) (by omega) ⟨pd_us, trivial⟩ rfl rfl h
end PDF
end
section
section PDG
variable {f_stacked f_treeSize f_over f_pressed f_focus f_waiting f_noteCount : Int32} {a_there a_parents a_kinds a_colours a_weights a_gaps a_layouts a_values a_effects a_targets a_visible a_enabled a_on a_wishedPlaces a_wishedSizes a_shifts a_stack a_tree a_seen a_able a_places a_sizes a_clipStarts a_clipEnds a_eventKinds a_eventXs a_eventYs a_notes a_pixels : Nat → Int32}
/-! N: X: what inherit() works out -/
theorem px_ix {w a : Nat} (hw : w < 12) (ha : a < 2) : vp_in (2 * nI w + nI a) 24 ∧ (2 * nI w + nI a).toNatClampNeg = 2 * w + a := by
  rw [pd_22]
  exact ⟨vp_in_nI (by omega) (by omega), pd_cl (by omega)⟩
theorem px_inhA {post : SX → Prop} {w a n : Nat} {x2 s e : Int32} (hw : w < 12) (ha : a < 2)
    (hs : (x2 = -1 ∧ s = a_places (2 * w + a) ∧ e = a_places (2 * w + a) + a_sizes (2 * w + a)) ∨
      ∃ p, p < 12 ∧ x2 = nI p ∧ s = (if a_places (2 * w + a) < a_clipStarts (2 * p + a) then a_clipStarts (2 * p + a) else a_places (2 * w + a)) ∧
        e = (if a_clipEnds (2 * p + a) < a_places (2 * w + a) + a_sizes (2 * w + a) then a_clipEnds (2 * p + a) else a_places (2 * w + a) + a_sizes (2 * w + a)))
    (h : wX_inherit_77 post (nI w) x2 f_stacked f_treeSize f_over f_pressed f_focus f_waiting f_noteCount n (nI (a + 1)) a_there a_parents a_kinds a_colours a_weights a_gaps a_layouts a_values a_effects a_targets a_visible a_enabled a_on a_wishedPlaces a_wishedSizes a_shifts a_stack a_tree a_seen a_able a_places a_sizes (upd a_clipStarts (2 * w + a) s) (upd a_clipEnds (2 * w + a) e) a_eventKinds a_eventXs a_eventYs a_notes a_pixels) :
    wX_inherit_77 post (nI w) x2 f_stacked f_treeSize f_over f_pressed f_focus f_waiting f_noteCount (n + 1) (nI a) a_there a_parents a_kinds a_colours a_weights a_gaps a_layouts a_values a_effects a_targets a_visible a_enabled a_on a_wishedPlaces a_wishedSizes a_shifts a_stack a_tree a_seen a_able a_places a_sizes a_clipStarts a_clipEnds a_eventKinds a_eventXs a_eventYs a_notes a_pixels := by
  obtain ⟨vI, cI⟩ := px_ix hw ha
  have fin : ∀ x4 x5, x4 = s → x5 = e → wX_inherit_173 post (wX_inherit_77 post (nI w) x2 f_stacked f_treeSize f_over f_pressed f_focus f_waiting f_noteCount n) (nI w) x2 (nI a) x4 x5 f_stacked f_treeSize f_over f_pressed f_focus f_waiting f_noteCount a_there a_parents a_kinds a_colours a_weights a_gaps a_layouts a_values a_effects a_targets a_visible a_enabled a_on a_wishedPlaces a_wishedSizes a_shifts a_stack a_tree a_seen a_able a_places a_sizes a_clipStarts a_clipEnds a_eventKinds a_eventXs a_eventYs a_notes a_pixels := by
    intro x4 x5 e4 e5
    subst e4 e5
    exact ⟨vI, nm_r (e' := upd a_clipStarts (2 * w + a) x4) (by rw [cI]) ⟨vI, nm_r (e' := upd a_clipEnds (2 * w + a) x5) (by rw [cI]) (nm_r (nI_1 a) h)⟩⟩
  rw [wX_inherit_77]
  refine br_f (nI_ge (b := 2) ha (by decide)) ⟨vI, nm_r (e' := a_places (2 * w + a)) (by rw [cI]) ⟨vI, nm_r (e' := a_places (2 * w + a) + a_sizes (2 * w + a)) (by rw [cI]) ?_⟩⟩
  rcases hs with ⟨h1, h2, h3⟩ | ⟨p, hp, h1, h2, h3⟩
  · exact br_t h1 (br_t h1 (fin _ _ h2.symm h3.symm))
  · subst h1
    obtain ⟨vP, cP⟩ := px_ix hp ha
    have n1 : ¬ nI p = -1 := pd_ne1 (by omega)
    have e141 : ∀ x4, x4 = s → wX_inherit_141 post (wX_inherit_77 post (nI w) (nI p) f_stacked f_treeSize f_over f_pressed f_focus f_waiting f_noteCount n) (nI w) (nI p) (nI a) x4 (a_places (2 * w + a) + a_sizes (2 * w + a)) f_stacked f_treeSize f_over f_pressed f_focus f_waiting f_noteCount a_there a_parents a_kinds a_colours a_weights a_gaps a_layouts a_values a_effects a_targets a_visible a_enabled a_on a_wishedPlaces a_wishedSizes a_shifts a_stack a_tree a_seen a_able a_places a_sizes a_clipStarts a_clipEnds a_eventKinds a_eventXs a_eventYs a_notes a_pixels := by
      intro x4 e4
      refine br_f n1 ⟨vP, ?_⟩
      rw [cP]
      by_cases c : a_places (2 * w + a) + a_sizes (2 * w + a) ≤ a_clipEnds (2 * p + a)
      · exact br_t c (fin _ _ e4 (by rw [h3, if_neg (Int32.not_lt.mpr c)]))
      · exact br_f c ⟨vP, nm_r (e' := a_clipEnds (2 * p + a)) rfl (fin _ _ e4 (by rw [h3, if_pos (Int32.not_le.mp c)]))⟩
    refine br_f n1 ⟨vP, ?_⟩
    rw [cP]
    by_cases c : a_clipStarts (2 * p + a) ≤ a_places (2 * w + a)
    · exact br_t c (e141 _ (by rw [h2, if_neg (Int32.not_lt.mpr c)]))
    · exact br_f c ⟨vP, nm_r (e' := a_clipStarts (2 * p + a)) rfl (e141 _ (by rw [h2, if_pos (Int32.not_le.mp c)]))⟩
/-- what stands for the parent: none, or one that is worked out -/
def pd_up (G : Nat → pd_V) (pa wp ws sh vi en la ga we : Nat → Int32) (L : List Nat) (se ab cs ce : Nat → Int32) (w : Nat) : Prop :=
  (w = 0 ∧ pa 0 = -1 ∧ G 0 = pd_R wp ws vi en) ∨ ∃ p, p < 12 ∧ pa w = nI p ∧ pd_CA G se ab cs ce p ∧ G w = pd_F pa wp ws sh vi en la ga we L (G p) p w
theorem px_inh {post : SX → Prop} {w : Nat} {G : Nat → pd_V} {L : List Nat} (hw : w < 12) (hPA : pd_PA G a_places a_sizes w)
    (hp : pd_up G a_parents a_wishedPlaces a_wishedSizes a_shifts a_visible a_enabled a_layouts a_gaps a_weights L a_seen a_able a_clipStarts a_clipEnds w)
    (h : ∀ se ab cs ce, pd_Mo a_seen se (fun j => (G j).2.2.1) → pd_Mo a_able ab (fun j => (G j).2.2.2.1) → pd_Mo a_clipStarts cs (pd_cC G) → pd_Mo a_clipEnds ce (pd_cE G) → pd_CA G se ab cs ce w →
      post (f_stacked, f_treeSize, f_over, f_pressed, f_focus, f_waiting, f_noteCount, a_there, a_parents, a_kinds, a_colours, a_weights, a_gaps, a_layouts, a_values, a_effects, a_targets, a_visible, a_enabled, a_on, a_wishedPlaces, a_wishedSizes, a_shifts, a_stack, a_tree, se, ab, a_places, a_sizes, cs, ce, a_eventKinds, a_eventXs, a_eventYs, a_notes, a_pixels)) : wpX_inherit post (f_stacked, f_treeSize, f_over, f_pressed, f_focus, f_waiting, f_noteCount, a_there, a_parents, a_kinds, a_colours, a_weights, a_gaps, a_layouts, a_values, a_effects, a_targets, a_visible, a_enabled, a_on, a_wishedPlaces, a_wishedSizes, a_shifts, a_stack, a_tree, a_seen, a_able, a_places, a_sizes, a_clipStarts, a_clipEnds, a_eventKinds, a_eventXs, a_eventYs, a_notes, a_pixels) (nI w) := by
  have vw : vp_in (nI w) 12 := vp_in_nI hw (by omega)
  have cw : (nI w).toNatClampNeg = w := pd_cl (by omega)
  have p0 := hPA 0 (by omega)
  have p1 := hPA 1 (by omega)
  have fin : ∃ n, wX_inherit_77 post (nI w) (a_parents w) f_stacked f_treeSize f_over f_pressed f_focus f_waiting f_noteCount n 0 a_there a_parents a_kinds a_colours a_weights a_gaps a_layouts a_values a_effects a_targets a_visible a_enabled a_on a_wishedPlaces a_wishedSizes a_shifts a_stack a_tree (upd a_seen w (G w).2.2.1) (upd a_able w (G w).2.2.2.1) a_places a_sizes a_clipStarts a_clipEnds a_eventKinds a_eventXs a_eventYs a_notes a_pixels := by
    refine ⟨3, ?_⟩
    have last : wX_inherit_77 post (nI w) (a_parents w) f_stacked f_treeSize f_over f_pressed f_focus f_waiting f_noteCount 1 (nI 2) a_there a_parents a_kinds a_colours a_weights a_gaps a_layouts a_values a_effects a_targets a_visible a_enabled a_on a_wishedPlaces a_wishedSizes a_shifts a_stack a_tree (upd a_seen w (G w).2.2.1) (upd a_able w (G w).2.2.2.1) a_places a_sizes (upd (upd a_clipStarts (2 * w + 0) ((G w).2.2.2.2.1 0)) (2 * w + 1) ((G w).2.2.2.2.1 1)) (upd (upd a_clipEnds (2 * w + 0) ((G w).2.2.2.2.2 0)) (2 * w + 1) ((G w).2.2.2.2.2 1)) a_eventKinds a_eventXs a_eventYs a_notes a_pixels := by
      rw [wX_inherit_77]
      refine br_t (Int32.le_refl _) (h _ _ _ _ (pd_Mo_u rfl) (pd_Mo_u rfl) (pd_Mo_t (pd_Mo_u (pd_cCa G (by omega)).symm) (pd_Mo_u (pd_cCa G (by omega)).symm)) (pd_Mo_t (pd_Mo_u (pd_cEa G (by omega)).symm) (pd_Mo_u (pd_cEa G (by omega)).symm)) ⟨pd_us, pd_us, fun a ha => ?_⟩)
      have : a = 0 ∨ a = 1 := by omega
      rcases this with rfl | rfl
      · rw [pd_un (by omega), pd_us, pd_un (by omega), pd_us]; exact ⟨rfl, rfl⟩
      · rw [pd_us, pd_us]; exact ⟨rfl, rfl⟩
    refine px_inhA (a := 0) hw (by omega) ?_ (px_inhA (a := 1) hw (by omega) ?_ last)
    · rcases hp with ⟨e0, e1, e2⟩ | ⟨p, hp, ep, hC, eG⟩
      · subst e0
        rw [e2] at p0 ⊢
        exact Or.inl ⟨e1, p0.1.symm, by rw [p0.1, p0.2]; rfl⟩
      · refine Or.inr ⟨p, hp, ep, ?_, ?_⟩
        · rw [(hC.2.2 0 (by omega)).1, p0.1]; conv => lhs; rw [eG]
          rw [eG]; rfl
        · rw [(hC.2.2 0 (by omega)).2, p0.1, p0.2]; conv => lhs; rw [eG]
          rw [eG]; rfl
    · rcases hp with ⟨e0, e1, e2⟩ | ⟨p, hp, ep, hC, eG⟩
      · subst e0
        rw [e2] at p1 ⊢
        exact Or.inl ⟨e1, p1.1.symm, by rw [p1.1, p1.2]; rfl⟩
      · refine Or.inr ⟨p, hp, ep, ?_, ?_⟩
        · rw [pd_un (by omega), (hC.2.2 1 (by omega)).1, p1.1]; conv => lhs; rw [eG]
          rw [eG]; rfl
        · rw [pd_un (by omega), (hC.2.2 1 (by omega)).2, p1.1, p1.2]; conv => lhs; rw [eG]
          rw [eG]; rfl
  have f40 : ∀ z0, z0 = (G w).2.2.1 → wX_inherit_40 post (nI w) (a_parents w) z0 (nI w) f_stacked f_treeSize f_over f_pressed f_focus f_waiting f_noteCount a_there a_parents a_kinds a_colours a_weights a_gaps a_layouts a_values a_effects a_targets a_visible a_enabled a_on a_wishedPlaces a_wishedSizes a_shifts a_stack a_tree a_seen a_able a_places a_sizes a_clipStarts a_clipEnds a_eventKinds a_eventXs a_eventYs a_notes a_pixels := by
    intro z0 ez
    have eb : vp_nar .boolean z0 = (G w).2.2.1 := by
      rw [ez]
      rcases hp with ⟨e0, e1, e2⟩ | ⟨p, hp, ep, hC, eG⟩
      · subst e0
        rw [e2]; simp only [pd_R]
        by_cases c : ¬ a_visible 0 = 0
        · rw [if_pos c]; exact pd_b1
        · rw [if_neg c]; exact pd_b0
      · rw [eG]; simp only [pd_F]
        by_cases c : ¬ a_visible w = 0 ∧ ¬ (G p).2.2.1 = 0
        · rw [if_pos c]; exact pd_b1
        · rw [if_neg c]; exact pd_b0
    refine ⟨vw, nm_r (e' := upd a_seen w (G w).2.2.1) (by rw [cw, eb]) ⟨vw, ?_⟩⟩
    rw [cw, pd_b0, pd_b1]
    rcases hp with ⟨e0, e1, e2⟩ | ⟨p, hp, ep, hC, eG⟩
    · subst e0
      have eA : (G 0).2.2.2.1 = if ¬ a_enabled 0 = 0 then 1 else 0 := by rw [e2]; rfl
      by_cases c : a_enabled 0 = 0
      · rw [if_neg (fun z => z c)] at eA
        rw [eA] at fin
        exact br_t c ⟨vw, nm_r rfl fin⟩
      · rw [if_pos c] at eA
        rw [eA] at fin
        exact br_f c (br_t e1 ⟨vw, nm_r rfl fin⟩)
    · have eA : (G w).2.2.2.1 = if ¬ a_enabled w = 0 ∧ ¬ (G p).2.2.2.1 = 0 then 1 else 0 := by rw [eG]; rfl
      by_cases c : a_enabled w = 0
      · rw [if_neg (fun z => z.1 c)] at eA
        rw [eA] at fin
        exact br_t c ⟨vw, nm_r rfl fin⟩
      · have n1 : ¬ a_parents w = -1 := by rw [ep]; exact pd_ne1 (by omega)
        have vp : vp_in (a_parents w) 12 := by rw [ep]; exact vp_in_nI hp (by omega)
        have cp : a_able (a_parents w).toNatClampNeg = (G p).2.2.2.1 := by rw [ep, pd_cl (by omega)]; exact hC.2.1
        refine br_f c (br_f n1 ⟨vp, ?_⟩)
        by_cases d : (G p).2.2.2.1 = 0
        · rw [if_neg (fun z => z.2 d)] at eA
          rw [eA] at fin
          exact br_t (cp.trans d) ⟨vw, nm_r rfl fin⟩
        · rw [if_pos ⟨c, d⟩] at eA
          rw [eA] at fin
          exact br_f (fun z => d (cp.symm.trans z)) ⟨vw, nm_r rfl fin⟩
  refine ⟨vw, nm_r (e' := a_parents w) (by rw [cw]) ⟨vw, ?_⟩⟩
  rw [cw]
  rcases hp with ⟨e0, e1, e2⟩ | ⟨p, hp, ep, hC, eG⟩
  · subst e0
    have eS : (G 0).2.2.1 = if ¬ a_visible 0 = 0 then 1 else 0 := by rw [e2]; rfl
    by_cases c : a_visible 0 = 0
    · exact br_t c (f40 0 (by rw [eS, if_neg (fun z => z c)]))
    · exact br_f c (br_t e1 (f40 1 (by rw [eS, if_pos c])))
  · have eS : (G w).2.2.1 = if ¬ a_visible w = 0 ∧ ¬ (G p).2.2.1 = 0 then 1 else 0 := by rw [eG]; rfl
    by_cases c : a_visible w = 0
    · exact br_t c (f40 0 (by rw [eS, if_neg (fun z => z.1 c)]))
    · have n1 : ¬ a_parents w = -1 := by rw [ep]; exact pd_ne1 (by omega)
      have vp : vp_in (a_parents w) 12 := by rw [ep]; exact vp_in_nI hp (by omega)
      have cp : a_seen (a_parents w).toNatClampNeg = (G p).2.2.1 := by rw [ep, pd_cl (by omega)]; exact hC.1
      refine br_f c (br_f n1 ⟨vp, ?_⟩)
      by_cases d : (G p).2.2.1 = 0
      · exact br_t (cp.trans d) (f40 0 (by rw [eS, if_neg (fun z => z.2 d)]))
      · exact br_f (fun z => d (cp.symm.trans z)) (f40 1 (by rw [eS, if_pos ⟨c, d⟩]))
/-! O: X: places by hand -/
theorem px_pb30 {post : SX → Prop} {J : _} {p c i : Nat} {G : Nat → pd_V} (hp : p < 12) (hc : c < 12) (hPA : pd_PA G a_places a_sizes p)
    (hg : ∀ a, (G c).1 a = (G p).1 a + a_wishedPlaces (2 * c + a) - a_shifts (2 * p + a) ∧ (G c).2.1 a = a_wishedSizes (2 * c + a))
    (h : ∀ pl sz, pd_Mo a_places pl (pd_cP G) → pd_Mo a_sizes sz (pd_cS G) → pd_PA G pl sz c → J (nI (i + 1)) a_there a_parents a_kinds a_colours a_weights a_gaps a_layouts a_values a_effects a_targets a_visible a_enabled a_on a_wishedPlaces a_wishedSizes a_shifts a_stack a_tree a_seen a_able pl sz a_clipStarts a_clipEnds a_eventKinds a_eventXs a_eventYs a_notes a_pixels) :
    ∃ n, wX_placeByHand_30 post J (nI p) (nI i) (nI c) f_stacked f_treeSize f_over f_pressed f_focus f_waiting f_noteCount n 0 a_there a_parents a_kinds a_colours a_weights a_gaps a_layouts a_values a_effects a_targets a_visible a_enabled a_on a_wishedPlaces a_wishedSizes a_shifts a_stack a_tree a_seen a_able a_places a_sizes a_clipStarts a_clipEnds a_eventKinds a_eventXs a_eventYs a_notes a_pixels := by
  obtain ⟨v0, c0⟩ := px_ix hp (a := 0) (by omega)
  obtain ⟨v1, c1⟩ := px_ix hp (a := 1) (by omega)
  obtain ⟨w0, d0⟩ := px_ix hc (a := 0) (by omega)
  obtain ⟨w1, d1⟩ := px_ix hc (a := 1) (by omega)
  have p0 := hPA 0 (by omega)
  have p1 := hPA 1 (by omega)
  refine ⟨3, ?_⟩
  show wX_placeByHand_30 post J (nI p) (nI i) (nI c) f_stacked f_treeSize f_over f_pressed f_focus f_waiting f_noteCount 3 (nI 0) a_there a_parents a_kinds a_colours a_weights a_gaps a_layouts a_values a_effects a_targets a_visible a_enabled a_on a_wishedPlaces a_wishedSizes a_shifts a_stack a_tree a_seen a_able a_places a_sizes a_clipStarts a_clipEnds a_eventKinds a_eventXs a_eventYs a_notes a_pixels
  rw [wX_placeByHand_30]
  refine br_f (by decide) ⟨v0, w0, v0, w0, nm_r (e' := upd a_places (2 * c + 0) ((G c).1 0)) (by rw [c0, d0, p0.1, (hg 0).1]) ⟨w0, w0, nm_r (e' := upd a_sizes (2 * c + 0) ((G c).2.1 0)) (by rw [d0, (hg 0).2]) (nm_r (nI_1 0) ?_)⟩⟩
  rw [wX_placeByHand_30]
  refine br_f (by decide) ⟨v1, w1, v1, w1, nm_r (e' := upd (upd a_places (2 * c + 0) ((G c).1 0)) (2 * c + 1) ((G c).1 1)) (by rw [c1, d1, pd_un (by omega), p1.1, (hg 1).1]) ⟨w1, w1, nm_r (e' := upd (upd a_sizes (2 * c + 0) ((G c).2.1 0)) (2 * c + 1) ((G c).2.1 1)) (by rw [d1, (hg 1).2]) (nm_r (nI_1 1) ?_)⟩⟩
  rw [wX_placeByHand_30]
  refine br_t (by decide) (nm_r (nI_1 i) (h _ _ (pd_Mo_t (pd_Mo_u (pd_cPa G (by omega)).symm) (pd_Mo_u (pd_cPa G (by omega)).symm)) (pd_Mo_t (pd_Mo_u (pd_cSa G (by omega)).symm) (pd_Mo_u (pd_cSa G (by omega)).symm)) (fun a ha => ?_)))
  have : a = 0 ∨ a = 1 := by omega
  rcases this with rfl | rfl
  · rw [pd_un (by omega), pd_us, pd_un (by omega), pd_us]; exact ⟨rfl, rfl⟩
  · rw [pd_us, pd_us]; exact ⟨rfl, rfl⟩
theorem px_pb2 {post : SX → Prop} {p N : Nat} {G : Nat → pd_V} (hp : p < 12) (hN : N ≤ 12) :
    ∀ (R : List Nat) (i n : Nat) (pl sz : Nat → Int32), pd_sg a_stack i R → i + R.length = N → R.length < n → (∀ c, c ∈ R → c < 12) → pd_PA G pl sz p →
    (∀ c, c ∈ pd_kd a_parents R p → ∀ a, (G c).1 a = (G p).1 a + a_wishedPlaces (2 * c + a) - a_shifts (2 * p + a) ∧ (G c).2.1 a = a_wishedSizes (2 * c + a)) →
    (∀ pl' sz', pd_Mo pl pl' (pd_cP G) → pd_Mo sz sz' (pd_cS G) → (∀ c, c ∈ pd_kd a_parents R p → pd_PA G pl' sz' c) → post (nI N, f_treeSize, f_over, f_pressed, f_focus, f_waiting, f_noteCount, a_there, a_parents, a_kinds, a_colours, a_weights, a_gaps, a_layouts, a_values, a_effects, a_targets, a_visible, a_enabled, a_on, a_wishedPlaces, a_wishedSizes, a_shifts, a_stack, a_tree, a_seen, a_able, pl', sz', a_clipStarts, a_clipEnds, a_eventKinds, a_eventXs, a_eventYs, a_notes, a_pixels)) →
    wX_placeByHand_2 post (nI p) (nI N) f_treeSize f_over f_pressed f_focus f_waiting f_noteCount n (nI i) a_there a_parents a_kinds a_colours a_weights a_gaps a_layouts a_values a_effects a_targets a_visible a_enabled a_on a_wishedPlaces a_wishedSizes a_shifts a_stack a_tree a_seen a_able pl sz a_clipStarts a_clipEnds a_eventKinds a_eventXs a_eventYs a_notes a_pixels := by
  intro R
  induction R with
  | nil =>
    intro i n pl sz _ hi hn _ _ _ h
    obtain ⟨n, rfl⟩ : ∃ m, n = m + 1 := ⟨n - 1, by omega⟩
    rw [wX_placeByHand_2]
    have hi' : i = N := hi
    exact br_t (by rw [hi']; exact Int32.le_refl _) (h pl sz (pd_Mo_r _ _) (pd_Mo_r _ _) (fun c hc => by cases hc))
  | cons c R ih =>
    intro i n pl sz hst hi hn hc hPA hg h
    obtain ⟨n, rfl⟩ : ∃ m, n = m + 1 := ⟨n - 1, by omega⟩
    rw [List.length_cons] at hi hn
    have hc12 : c < 12 := hc c (List.mem_cons_self ..)
    rw [wX_placeByHand_2]
    refine br_f (nI_ge (by omega) (by omega)) ⟨vp_in_nI (by omega) (by omega), nm_r (e' := nI c) (by rw [pd_cl (by omega)]; exact hst.1) ⟨vp_in_nI hc12 (by omega), ?_⟩⟩
    rw [pd_cl (n := c) (by omega)]
    by_cases hpc : a_parents c = nI p
    · have ek : pd_kd a_parents (c :: R) p = c :: pd_kd a_parents R p := by unfold pd_kd; simp [hpc]
      rw [ek] at hg h
      refine br_t hpc (px_pb30 (G := G) hp hc12 hPA (hg c (List.mem_cons_self ..)) (fun pl1 sz1 m1 m2 hA => ?_))
      refine ih (i + 1) n pl1 sz1 hst.2 (by omega) (by omega) (fun d hd => hc d (List.mem_cons_of_mem _ hd)) (pd_PAm m1 m2 hPA) (fun d hd => hg d (List.mem_cons_of_mem _ hd)) (fun pl2 sz2 m3 m4 hB => ?_)
      refine h pl2 sz2 (pd_Mo_t m1 m3) (pd_Mo_t m2 m4) (fun d hd => ?_)
      cases List.mem_cons.mp hd with
      | inl e => subst e; exact pd_PAm m3 m4 hA
      | inr e => exact hB d e
    · have ek : pd_kd a_parents (c :: R) p = pd_kd a_parents R p := by unfold pd_kd; simp [hpc]
      rw [ek] at hg h
      exact br_f hpc (nm_r (nI_1 i) (ih (i + 1) n pl sz hst.2 (by omega) (by omega) (fun d hd => hc d (List.mem_cons_of_mem _ hd)) hPA hg h))
end PDG
end
section
section PDH
variable {f_stacked f_treeSize f_over f_pressed f_focus f_waiting f_noteCount : Int32} {a_there a_parents a_kinds a_colours a_weights a_gaps a_layouts a_values a_effects a_targets a_visible a_enabled a_on a_wishedPlaces a_wishedSizes a_shifts a_stack a_tree a_seen a_able a_places a_sizes a_clipStarts a_clipEnds a_eventKinds a_eventXs a_eventYs a_notes a_pixels : Nat → Int32}
/-! P: X: rows and columns -/
theorem px_stand {post : Int32 → Prop} {c : Nat} {x : Int32} (hc : c < 12) (h1 : a_parents c = x → ¬ a_visible c = 0 → post 1) (h0 : ¬ (a_parents c = x ∧ ¬ a_visible c = 0) → post 0) : wpX_standsInLine post (f_stacked, f_treeSize, f_over, f_pressed, f_focus, f_waiting, f_noteCount, a_there, a_parents, a_kinds, a_colours, a_weights, a_gaps, a_layouts, a_values, a_effects, a_targets, a_visible, a_enabled, a_on, a_wishedPlaces, a_wishedSizes, a_shifts, a_stack, a_tree, a_seen, a_able, a_places, a_sizes, a_clipStarts, a_clipEnds, a_eventKinds, a_eventXs, a_eventYs, a_notes, a_pixels) (nI c) x := by
  have vc : vp_in (nI c) 12 := vp_in_nI hc (by omega)
  have cc : (nI c).toNatClampNeg = c := pd_cl (by omega)
  refine ⟨vc, ?_⟩
  rw [cc]
  by_cases a : a_parents c = x
  · refine br_t a ⟨vc, ?_⟩
    by_cases b : a_visible c = 0
    · exact br_t b (h0 (fun z => z.2 b))
    · exact br_f b (h1 a b)
  · exact br_f a (h0 (fun z => a z.1))
theorem px_share {post : Int32 → Prop} {c : Nat} {lo sw : Int32} (hc : c < 12) (h : post (pd_sh lo sw (a_weights c))) : wpX_share post (f_stacked, f_treeSize, f_over, f_pressed, f_focus, f_waiting, f_noteCount, a_there, a_parents, a_kinds, a_colours, a_weights, a_gaps, a_layouts, a_values, a_effects, a_targets, a_visible, a_enabled, a_on, a_wishedPlaces, a_wishedSizes, a_shifts, a_stack, a_tree, a_seen, a_able, a_places, a_sizes, a_clipStarts, a_clipEnds, a_eventKinds, a_eventXs, a_eventYs, a_notes, a_pixels) (nI c) lo sw := by
  unfold pd_sh at h
  by_cases a : sw ≤ 0
  · rw [if_neg (Int32.not_lt.mpr a)] at h
    exact br_t a h
  · rw [if_pos (Int32.not_le.mp a)] at h
    refine br_f a ⟨vp_in_nI hc (by omega), fun z => a (by rw [z]; exact Int32.le_refl _), ?_⟩
    rw [pd_cl (by omega)]
    exact h
theorem pd_kdy {pa : Nat → Int32} {c p : Nat} {R : List Nat} (h : pa c = nI p) : pd_kd pa (c :: R) p = c :: pd_kd pa R p := by unfold pd_kd; simp [h]
theorem pd_kdn {pa : Nat → Int32} {c p : Nat} {R : List Nat} (h : ¬ pa c = nI p) : pd_kd pa (c :: R) p = pd_kd pa R p := by unfold pd_kd; simp [h]
theorem px_llo17 {post : Int32 → Prop} {p a N : Nat} (hp : p < 12) (ha : a < 2) (hN : N ≤ 12) :
    ∀ (R : List Nat) (i m n : Nat) (r : Int32), pd_sg a_stack i R → i + R.length = N → R.length < n → m + R.length ≤ 12 → (∀ c, c ∈ R → c < 12) →
    post (pd_po (pd_l1 (a_gaps p) (pd_sn a_visible (pd_kd a_parents R p) m) (pd_sr a_wishedSizes a_visible a (pd_kd a_parents R p) r))) →
    wX_lengthLeftOver_17 post (nI p) (nI a) (nI N) f_treeSize f_over f_pressed f_focus f_waiting f_noteCount a_there a_parents a_kinds a_colours a_weights a_gaps a_layouts a_values a_effects a_targets a_visible a_enabled a_on a_wishedPlaces a_wishedSizes a_shifts a_stack a_tree a_seen a_able a_places a_sizes a_clipStarts a_clipEnds a_eventKinds a_eventXs a_eventYs a_notes a_pixels n (nI m) r (nI i) := by
  intro R
  induction R with
  | nil =>
    intro i m n r _ hi hn hm _ h
    obtain ⟨n, rfl⟩ : ∃ k, n = k + 1 := ⟨n - 1, by omega⟩
    rw [wX_lengthLeftOver_17]
    have hi' : i = N := hi
    refine br_t (by rw [hi']; exact Int32.le_refl _) ?_
    have h91 : ∀ x, x = pd_l1 (a_gaps p) m r → wX_lengthLeftOver_91 post x (nI N) f_treeSize f_over f_pressed f_focus f_waiting f_noteCount a_there a_parents a_kinds a_colours a_weights a_gaps a_layouts a_values a_effects a_targets a_visible a_enabled a_on a_wishedPlaces a_wishedSizes a_shifts a_stack a_tree a_seen a_able a_places a_sizes a_clipStarts a_clipEnds a_eventKinds a_eventXs a_eventYs a_notes a_pixels := by
      intro x ex
      subst ex
      have h' : post (pd_po (pd_l1 (a_gaps p) m r)) := h
      unfold pd_po at h'
      by_cases c : pd_l1 (a_gaps p) m r ≤ 0
      · rw [if_neg (Int32.not_lt.mpr c)] at h'
        exact br_t c h'
      · rw [if_pos (Int32.not_le.mp c)] at h'
        exact br_f c h'
    by_cases c : m ≤ 1
    · exact br_t (nI_le (b := 1) c (by decide)) (h91 r (by unfold pd_l1; rw [if_neg (by omega)]))
    · exact br_f (nI_ge (a := 1) (by omega) (by omega)) ⟨vp_in_nI hp (by omega), nm_r (e' := r - (nI m - 1) * a_gaps p) (by rw [pd_cl (by omega)]) (h91 _ (by unfold pd_l1; rw [if_pos (by omega)]))⟩
  | cons c R ih =>
    intro i m n r hst hi hn hm hc h
    obtain ⟨n, rfl⟩ : ∃ k, n = k + 1 := ⟨n - 1, by omega⟩
    rw [List.length_cons] at hi hn hm
    have hc12 : c < 12 := hc c (List.mem_cons_self ..)
    have es : a_stack (nI i).toNatClampNeg = nI c := by rw [pd_cl (by omega)]; exact hst.1
    obtain ⟨vI, cI⟩ := px_ix hc12 ha
    have hR : ∀ d, d ∈ R → d < 12 := fun d hd => hc d (List.mem_cons_of_mem _ hd)
    rw [wX_lengthLeftOver_17]
    dsimp only
    rw [es]
    refine br_f (nI_ge (by omega) (by omega)) ⟨vp_in_nI (by omega) (by omega), px_stand hc12 (fun e1 e2 => ?_) (fun e0 => ?_)⟩
    · refine br_f (by decide) ⟨vp_in_nI (by omega) (by omega), vI, nm_r (e' := r - a_wishedSizes (2 * c + a)) (by rw [cI]) (nm_r (nI_1 m) (nm_r (nI_1 i) ?_))⟩
      rw [pd_kdy e1] at h
      simp only [pd_sn, pd_sr, if_neg e2] at h
      exact ih (i + 1) (m + 1) n _ hst.2 (by omega) (by omega) (by omega) hR h
    · refine br_t rfl (nm_r (nI_1 i) (ih (i + 1) m n r hst.2 (by omega) (by omega) (by omega) hR ?_))
      by_cases e1 : a_parents c = nI p
      · have e2 : a_visible c = 0 := Classical.byContradiction fun z => e0 ⟨e1, z⟩
        rw [pd_kdy e1] at h
        simp only [pd_sn, pd_sr, if_pos e2] at h
        exact h
      · rw [pd_kdn e1] at h
        exact h
theorem px_llo {post : Int32 → Prop} {p a : Nat} {L : List Nat} (hp : p < 12) (ha : a < 2) (hL : L.length ≤ 11) (hst : pd_ST f_stacked a_stack L) (hc : ∀ c, c ∈ L → c < 12)
    (h : post (pd_lo a_wishedSizes a_visible (a_gaps p) a (pd_kd a_parents L p) (a_sizes (2 * p + a)))) : wpX_lengthLeftOver post (f_stacked, f_treeSize, f_over, f_pressed, f_focus, f_waiting, f_noteCount, a_there, a_parents, a_kinds, a_colours, a_weights, a_gaps, a_layouts, a_values, a_effects, a_targets, a_visible, a_enabled, a_on, a_wishedPlaces, a_wishedSizes, a_shifts, a_stack, a_tree, a_seen, a_able, a_places, a_sizes, a_clipStarts, a_clipEnds, a_eventKinds, a_eventXs, a_eventYs, a_notes, a_pixels) (nI p) (nI a) := by
  obtain ⟨rfl, hs⟩ := hst
  obtain ⟨vI, cI⟩ := px_ix hp ha
  exact ⟨vI, nm_r (e' := a_sizes (2 * p + a)) (by rw [cI]) ⟨L.length + 1, px_llo17 hp ha (N := L.length) (by omega) L 0 0 (L.length + 1) _ hs (by omega) (by omega) (by omega) hc h⟩⟩
theorem px_sow4 {post : Int32 → Prop} {p N : Nat} (hN : N ≤ 12) :
    ∀ (R : List Nat) (i n : Nat) (s : Int32), pd_sg a_stack i R → i + R.length = N → R.length < n → (∀ c, c ∈ R → c < 12) →
    post (pd_sw a_weights a_visible (pd_kd a_parents R p) s) →
    wX_sumOfWeights_4 post (nI p) (nI N) f_treeSize f_over f_pressed f_focus f_waiting f_noteCount a_there a_parents a_kinds a_colours a_weights a_gaps a_layouts a_values a_effects a_targets a_visible a_enabled a_on a_wishedPlaces a_wishedSizes a_shifts a_stack a_tree a_seen a_able a_places a_sizes a_clipStarts a_clipEnds a_eventKinds a_eventXs a_eventYs a_notes a_pixels n s (nI i) := by
  intro R
  induction R with
  | nil =>
    intro i n r _ hi hn _ h
    obtain ⟨n, rfl⟩ : ∃ k, n = k + 1 := ⟨n - 1, by omega⟩
    rw [wX_sumOfWeights_4]
    have hi' : i = N := hi
    exact br_t (by rw [hi']; exact Int32.le_refl _) h
  | cons c R ih =>
    intro i n r hst hi hn hc h
    obtain ⟨n, rfl⟩ : ∃ k, n = k + 1 := ⟨n - 1, by omega⟩
    rw [List.length_cons] at hi hn
    have hc12 : c < 12 := hc c (List.mem_cons_self ..)
    have es : a_stack (nI i).toNatClampNeg = nI c := by rw [pd_cl (by omega)]; exact hst.1
    have hR : ∀ d, d ∈ R → d < 12 := fun d hd => hc d (List.mem_cons_of_mem _ hd)
    rw [wX_sumOfWeights_4]
    dsimp only
    rw [es]
    refine br_f (nI_ge (by omega) (by omega)) ⟨vp_in_nI (by omega) (by omega), px_stand hc12 (fun e1 e2 => ?_) (fun e0 => ?_)⟩
    · refine br_f (by decide) ⟨vp_in_nI (by omega) (by omega), vp_in_nI hc12 (by omega), nm_r (e' := r + a_weights c) (by rw [pd_cl (by omega)]) (nm_r (nI_1 i) ?_)⟩
      rw [pd_kdy e1] at h
      simp only [pd_sw, if_neg e2] at h
      exact ih (i + 1) n _ hst.2 (by omega) (by omega) hR h
    · refine br_t rfl (nm_r (nI_1 i) (ih (i + 1) n r hst.2 (by omega) (by omega) hR ?_))
      by_cases e1 : a_parents c = nI p
      · have e2 : a_visible c = 0 := Classical.byContradiction fun z => e0 ⟨e1, z⟩
        rw [pd_kdy e1] at h
        simp only [pd_sw, if_pos e2] at h
        exact h
      · rw [pd_kdn e1] at h
        exact h
theorem px_sos6 {post : Int32 → Prop} {p N : Nat} {lo sw : Int32} (hN : N ≤ 12) :
    ∀ (R : List Nat) (i n : Nat) (s : Int32), pd_sg a_stack i R → i + R.length = N → R.length < n → (∀ c, c ∈ R → c < 12) →
    post (pd_ss a_weights a_visible lo sw (pd_kd a_parents R p) s) →
    wX_sumOfShares_6 post (nI p) lo sw (nI N) f_treeSize f_over f_pressed f_focus f_waiting f_noteCount a_there a_parents a_kinds a_colours a_weights a_gaps a_layouts a_values a_effects a_targets a_visible a_enabled a_on a_wishedPlaces a_wishedSizes a_shifts a_stack a_tree a_seen a_able a_places a_sizes a_clipStarts a_clipEnds a_eventKinds a_eventXs a_eventYs a_notes a_pixels n s (nI i) := by
  intro R
  induction R with
  | nil =>
    intro i n r _ hi hn _ h
    obtain ⟨n, rfl⟩ : ∃ k, n = k + 1 := ⟨n - 1, by omega⟩
    rw [wX_sumOfShares_6]
    have hi' : i = N := hi
    exact br_t (by rw [hi']; exact Int32.le_refl _) h
  | cons c R ih =>
    intro i n r hst hi hn hc h
    obtain ⟨n, rfl⟩ : ∃ k, n = k + 1 := ⟨n - 1, by omega⟩
    rw [List.length_cons] at hi hn
    have hc12 : c < 12 := hc c (List.mem_cons_self ..)
    have es : a_stack (nI i).toNatClampNeg = nI c := by rw [pd_cl (by omega)]; exact hst.1
    have hR : ∀ d, d ∈ R → d < 12 := fun d hd => hc d (List.mem_cons_of_mem _ hd)
    rw [wX_sumOfShares_6]
    dsimp only
    rw [es]
    refine br_f (nI_ge (by omega) (by omega)) ⟨vp_in_nI (by omega) (by omega), px_stand hc12 (fun e1 e2 => ?_) (fun e0 => ?_)⟩
    · refine br_f (by decide) ⟨vp_in_nI (by omega) (by omega), px_share hc12 (nm_e (nm_r (nI_1 i) ?_))⟩
      rw [pd_kdy e1] at h
      simp only [pd_ss, if_neg e2] at h
      exact ih (i + 1) n _ hst.2 (by omega) (by omega) hR h
    · refine br_t rfl (nm_r (nI_1 i) (ih (i + 1) n r hst.2 (by omega) (by omega) hR ?_))
      by_cases e1 : a_parents c = nI p
      · have e2 : a_visible c = 0 := Classical.byContradiction fun z => e0 ⟨e1, z⟩
        rw [pd_kdy e1] at h
        simp only [pd_ss, if_pos e2] at h
        exact h
      · rw [pd_kdn e1] at h
        exact h
theorem px_aside {post : SX → Prop} {p c : Nat} {G : Nat → pd_V} (hp : p < 12) (hc : c < 12) (hPA : pd_PA G a_places a_sizes p)
    (hg : ∀ a, (G c).1 a = (G p).1 a ∧ (G c).2.1 a = a_wishedSizes (2 * c + a))
    (h : ∀ pl sz, pd_Mo a_places pl (pd_cP G) → pd_Mo a_sizes sz (pd_cS G) → pd_PA G pl sz c → post (f_stacked, f_treeSize, f_over, f_pressed, f_focus, f_waiting, f_noteCount, a_there, a_parents, a_kinds, a_colours, a_weights, a_gaps, a_layouts, a_values, a_effects, a_targets, a_visible, a_enabled, a_on, a_wishedPlaces, a_wishedSizes, a_shifts, a_stack, a_tree, a_seen, a_able, pl, sz, a_clipStarts, a_clipEnds, a_eventKinds, a_eventXs, a_eventYs, a_notes, a_pixels)) :
    wpX_setAside post (f_stacked, f_treeSize, f_over, f_pressed, f_focus, f_waiting, f_noteCount, a_there, a_parents, a_kinds, a_colours, a_weights, a_gaps, a_layouts, a_values, a_effects, a_targets, a_visible, a_enabled, a_on, a_wishedPlaces, a_wishedSizes, a_shifts, a_stack, a_tree, a_seen, a_able, a_places, a_sizes, a_clipStarts, a_clipEnds, a_eventKinds, a_eventXs, a_eventYs, a_notes, a_pixels) (nI c) (nI p) := by
  obtain ⟨v0, c0⟩ := px_ix hp (a := 0) (by omega)
  obtain ⟨v1, c1⟩ := px_ix hp (a := 1) (by omega)
  obtain ⟨w0, d0⟩ := px_ix hc (a := 0) (by omega)
  obtain ⟨w1, d1⟩ := px_ix hc (a := 1) (by omega)
  have p0 := hPA 0 (by omega)
  have p1 := hPA 1 (by omega)
  refine ⟨3, ?_⟩
  show wX_setAside_2 post (nI c) (nI p) f_stacked f_treeSize f_over f_pressed f_focus f_waiting f_noteCount 3 (nI 0) a_there a_parents a_kinds a_colours a_weights a_gaps a_layouts a_values a_effects a_targets a_visible a_enabled a_on a_wishedPlaces a_wishedSizes a_shifts a_stack a_tree a_seen a_able a_places a_sizes a_clipStarts a_clipEnds a_eventKinds a_eventXs a_eventYs a_notes a_pixels
  rw [wX_setAside_2]
  refine br_f (by decide) ⟨v0, w0, nm_r (e' := upd a_places (2 * c + 0) ((G c).1 0)) (by rw [c0, d0, p0.1, (hg 0).1]) ⟨w0, w0, nm_r (e' := upd a_sizes (2 * c + 0) ((G c).2.1 0)) (by rw [d0, (hg 0).2]) (nm_r (nI_1 0) ?_)⟩⟩
  rw [wX_setAside_2]
  refine br_f (by decide) ⟨v1, w1, nm_r (e' := upd (upd a_places (2 * c + 0) ((G c).1 0)) (2 * c + 1) ((G c).1 1)) (by rw [c1, d1, pd_un (by omega), p1.1, (hg 1).1]) ⟨w1, w1, nm_r (e' := upd (upd a_sizes (2 * c + 0) ((G c).2.1 0)) (2 * c + 1) ((G c).2.1 1)) (by rw [d1, (hg 1).2]) (nm_r (nI_1 1) ?_)⟩⟩
  rw [wX_setAside_2]
  refine br_t (by decide) (h _ _ (pd_Mo_t (pd_Mo_u (pd_cPa G (by omega)).symm) (pd_Mo_u (pd_cPa G (by omega)).symm)) (pd_Mo_t (pd_Mo_u (pd_cSa G (by omega)).symm) (pd_Mo_u (pd_cSa G (by omega)).symm)) (fun a ha => ?_))
  have : a = 0 ∨ a = 1 := by omega
  rcases this with rfl | rfl
  · rw [pd_un (by omega), pd_us, pd_un (by omega), pd_us]; exact ⟨rfl, rfl⟩
  · rw [pd_us, pd_us]; exact ⟨rfl, rfl⟩
theorem px_ln148 {post : SX → Prop} {J : _} {p c a i : Nat} {x3 x4 x5 x6 x9 : Int32} {G : Nat → pd_V} (hp : p < 12) (hc : c < 12) (ha : a < 2) (hPA : pd_PA G a_places a_sizes p)
    (h1 : (G c).1 a = x6) (h2 : (G c).2.1 a = x9) (h3 : (G c).1 (1 - a) = (G p).1 (1 - a) - a_shifts (2 * p + (1 - a))) (h4 : (G c).2.1 (1 - a) = (G p).2.1 (1 - a))
    (h : ∀ pl sz, pd_Mo a_places pl (pd_cP G) → pd_Mo a_sizes sz (pd_cS G) → pd_PA G pl sz c → J x5 (x6 + (x9 + a_gaps p)) (nI (i + 1)) f_stacked f_treeSize f_over f_pressed f_focus f_waiting f_noteCount a_there a_parents a_kinds a_colours a_weights a_gaps a_layouts a_values a_effects a_targets a_visible a_enabled a_on a_wishedPlaces a_wishedSizes a_shifts a_stack a_tree a_seen a_able pl sz a_clipStarts a_clipEnds a_eventKinds a_eventXs a_eventYs a_notes a_pixels) :
    wX_placeInLine_148 post J (nI p) (nI a) x3 x4 x5 x6 (nI i) (nI c) x9 f_stacked f_treeSize f_over f_pressed f_focus f_waiting f_noteCount a_there a_parents a_kinds a_colours a_weights a_gaps a_layouts a_values a_effects a_targets a_visible a_enabled a_on a_wishedPlaces a_wishedSizes a_shifts a_stack a_tree a_seen a_able a_places a_sizes a_clipStarts a_clipEnds a_eventKinds a_eventXs a_eventYs a_notes a_pixels := by
  obtain ⟨wa, da⟩ := px_ix hc ha
  have e1 : 1 - nI a = nI (1 - a) := pd_sub (a := 1) (by omega)
  obtain ⟨vb, cb⟩ := px_ix hp (a := 1 - a) (by omega)
  obtain ⟨wb, db⟩ := px_ix hc (a := 1 - a) (by omega)
  have pb := hPA (1 - a) (by omega)
  refine ⟨wa, nm_r (e' := upd a_places (2 * c + a) ((G c).1 a)) (by rw [da, h1]) ⟨wa, nm_r (e' := upd a_sizes (2 * c + a) ((G c).2.1 a)) (by rw [da, h2]) ?_⟩⟩
  rw [e1]
  refine ⟨vb, vb, wb, nm_r (e' := upd (upd a_places (2 * c + a) ((G c).1 a)) (2 * c + (1 - a)) ((G c).1 (1 - a))) (by rw [cb, db, pd_un (by omega), pb.1, h3]) ⟨vb, wb, nm_r (e' := upd (upd a_sizes (2 * c + a) ((G c).2.1 a)) (2 * c + (1 - a)) ((G c).2.1 (1 - a))) (by rw [cb, db, pd_un (by omega), pb.2, h4]) ?_⟩⟩
  refine ⟨vp_in_nI hp (by omega), nm_r (e' := x6 + (x9 + a_gaps p)) (by rw [pd_cl (by omega)]) (nm_r (nI_1 i) (h _ _ (pd_Mo_t (pd_Mo_u (pd_cPa G (by omega)).symm) (pd_Mo_u (pd_cPa G (by omega)).symm)) (pd_Mo_t (pd_Mo_u (pd_cSa G (by omega)).symm) (pd_Mo_u (pd_cSa G (by omega)).symm)) (fun b hb => ?_)))⟩
  by_cases e : b = a
  · subst e
    rw [pd_un (by omega), pd_us, pd_un (by omega), pd_us]; exact ⟨rfl, rfl⟩
  · have : b = 1 - a := by omega
    subst this
    rw [pd_us, pd_us]; exact ⟨rfl, rfl⟩
theorem px_ln52 {post : SX → Prop} {p a N : Nat} {lo sw : Int32} {G : Nat → pd_V} (hp : p < 12) (ha : a < 2) (hN : N ≤ 12) :
    ∀ (R : List Nat) (i n : Nat) (o s : Int32) (pl sz : Nat → Int32), pd_sg a_stack i R → i + R.length = N → R.length < n → (∀ c, c ∈ R → c < 12) → pd_PA G pl sz p →
    (∀ c, c ∈ pd_kd a_parents R p → a_visible c = 0 → ∀ b, (G c).1 b = (G p).1 b ∧ (G c).2.1 b = a_wishedSizes (2 * c + b)) →
    (∀ c, c ∈ pd_kd a_parents R p → ¬ a_visible c = 0 → (G c).1 (1 - a) = (G p).1 (1 - a) - a_shifts (2 * p + (1 - a)) ∧ (G c).2.1 (1 - a) = (G p).2.1 (1 - a)) →
    pd_PL a_wishedSizes a_weights a_visible a lo sw (a_gaps p) (fun c => ((G c).1 a, (G c).2.1 a)) (pd_kd a_parents R p) o s →
    (∀ pl' sz', pd_Mo pl pl' (pd_cP G) → pd_Mo sz sz' (pd_cS G) → (∀ c, c ∈ pd_kd a_parents R p → pd_PA G pl' sz' c) → post (nI N, f_treeSize, f_over, f_pressed, f_focus, f_waiting, f_noteCount, a_there, a_parents, a_kinds, a_colours, a_weights, a_gaps, a_layouts, a_values, a_effects, a_targets, a_visible, a_enabled, a_on, a_wishedPlaces, a_wishedSizes, a_shifts, a_stack, a_tree, a_seen, a_able, pl', sz', a_clipStarts, a_clipEnds, a_eventKinds, a_eventXs, a_eventYs, a_notes, a_pixels)) →
    wX_placeInLine_52 post (nI p) (nI a) lo sw n o s (nI i) (nI N) f_treeSize f_over f_pressed f_focus f_waiting f_noteCount a_there a_parents a_kinds a_colours a_weights a_gaps a_layouts a_values a_effects a_targets a_visible a_enabled a_on a_wishedPlaces a_wishedSizes a_shifts a_stack a_tree a_seen a_able pl sz a_clipStarts a_clipEnds a_eventKinds a_eventXs a_eventYs a_notes a_pixels := by
  intro R
  induction R with
  | nil =>
    intro i n o s pl sz _ hi hn _ _ _ _ _ h
    obtain ⟨n, rfl⟩ : ∃ m, n = m + 1 := ⟨n - 1, by omega⟩
    rw [wX_placeInLine_52]
    have hi' : i = N := hi
    exact br_t (by rw [hi']; exact Int32.le_refl _) (h pl sz (pd_Mo_r _ _) (pd_Mo_r _ _) (fun c hc => by cases hc))
  | cons c R ih =>
    intro i n o s pl sz hst hi hn hc hPA hH hV hPL h
    obtain ⟨n, rfl⟩ : ∃ m, n = m + 1 := ⟨n - 1, by omega⟩
    rw [List.length_cons] at hi hn
    have hc12 : c < 12 := hc c (List.mem_cons_self ..)
    have hcR : ∀ d, d ∈ R → d < 12 := fun d hd => hc d (List.mem_cons_of_mem _ hd)
    have cc : (nI c).toNatClampNeg = c := pd_cl (by omega)
    have vc : vp_in (nI c) 12 := vp_in_nI hc12 (by omega)
    obtain ⟨vI, cI⟩ := px_ix hc12 ha
    rw [wX_placeInLine_52]
    refine br_f (nI_ge (by omega) (by omega)) ⟨vp_in_nI (by omega) (by omega), nm_r (e' := nI c) (by rw [pd_cl (by omega)]; exact hst.1) ⟨vc, ?_⟩⟩
    rw [cc]
    by_cases hpa : a_parents c = nI p
    · rw [pd_kdy hpa] at hH hV hPL h
      have fin : ∀ pl1 sz1 o1 s1, pd_Mo pl pl1 (pd_cP G) → pd_Mo sz sz1 (pd_cS G) → pd_PA G pl1 sz1 c → pd_PL a_wishedSizes a_weights a_visible a lo sw (a_gaps p) (fun c => ((G c).1 a, (G c).2.1 a)) (pd_kd a_parents R p) o1 s1 →
          wX_placeInLine_52 post (nI p) (nI a) lo sw n o1 s1 (nI (i + 1)) (nI N) f_treeSize f_over f_pressed f_focus f_waiting f_noteCount a_there a_parents a_kinds a_colours a_weights a_gaps a_layouts a_values a_effects a_targets a_visible a_enabled a_on a_wishedPlaces a_wishedSizes a_shifts a_stack a_tree a_seen a_able pl1 sz1 a_clipStarts a_clipEnds a_eventKinds a_eventXs a_eventYs a_notes a_pixels := by
        intro pl1 sz1 o1 s1 m1 m2 hA hPL1
        refine ih (i + 1) n o1 s1 pl1 sz1 hst.2 (by omega) (by omega) hcR (pd_PAm m1 m2 hPA) (fun d hd => hH d (List.mem_cons_of_mem _ hd)) (fun d hd => hV d (List.mem_cons_of_mem _ hd)) hPL1 (fun pl2 sz2 m3 m4 hB => ?_)
        refine h pl2 sz2 (pd_Mo_t m1 m3) (pd_Mo_t m2 m4) (fun d hd => ?_)
        cases List.mem_cons.mp hd with
        | inl e => subst e; exact pd_PAm m3 m4 hA
        | inr e => exact hB d e
      refine br_t hpa ⟨vc, ?_⟩
      by_cases hv : a_visible c = 0
      · refine br_t hv (px_aside (G := G) hp hc12 hPA (hH c (List.mem_cons_self ..) hv) (fun pl1 sz1 m1 m2 hA => nm_r (nI_1 i) (fin pl1 sz1 o s m1 m2 hA (hPL.1 hv))))
      · obtain ⟨hV1, hV2⟩ := hV c (List.mem_cons_self ..) hv
        refine br_f hv ⟨vI, px_share hc12 (nm_r (e' := a_wishedSizes (2 * c + a) + pd_sh lo sw (a_weights c)) (by rw [cI]) ⟨vc, ?_⟩)⟩
        by_cases hw : a_weights c ≤ 0
        · obtain ⟨g1, g2⟩ := hPL.2.2 hv (fun z => absurd z.1 (Int32.not_lt.mpr hw))
          exact br_t hw (px_ln148 (G := G) hp hc12 ha hPA (congrArg Prod.fst g1) (congrArg Prod.snd g1) hV1 hV2 (fun pl1 sz1 m1 m2 hA => fin pl1 sz1 _ _ m1 m2 hA g2))
        · by_cases ho : o ≤ 0
          · obtain ⟨g1, g2⟩ := hPL.2.2 hv (fun z => absurd z.2 (Int32.not_lt.mpr ho))
            exact br_f hw (br_t ho (px_ln148 (G := G) hp hc12 ha hPA (congrArg Prod.fst g1) (congrArg Prod.snd g1) hV1 hV2 (fun pl1 sz1 m1 m2 hA => fin pl1 sz1 _ _ m1 m2 hA g2)))
          · obtain ⟨g1, g2⟩ := hPL.2.1 hv ⟨Int32.not_le.mp hw, Int32.not_le.mp ho⟩
            exact br_f hw (br_f ho (nm_e (nm_e (px_ln148 (G := G) hp hc12 ha hPA (congrArg Prod.fst g1) (congrArg Prod.snd g1) hV1 hV2 (fun pl1 sz1 m1 m2 hA => fin pl1 sz1 _ _ m1 m2 hA g2)))))
    · rw [pd_kdn hpa] at hH hV hPL h
      exact br_f hpa (nm_r (nI_1 i) (ih (i + 1) n o s pl sz hst.2 (by omega) (by omega) hcR hPA hH hV hPL h))
end PDH
end
section
section PDI
variable {f_stacked f_treeSize f_over f_pressed f_focus f_waiting f_noteCount : Int32} {a_there a_parents a_kinds a_colours a_weights a_gaps a_layouts a_values a_effects a_targets a_visible a_enabled a_on a_wishedPlaces a_wishedSizes a_shifts a_stack a_tree a_seen a_able a_places a_sizes a_clipStarts a_clipEnds a_eventKinds a_eventXs a_eventYs a_notes a_pixels : Nat → Int32}
/-! Q: X: settle() -/
theorem px_line {post : SX → Prop} {p a : Nat} {L : List Nat} {rk : Nat → Nat} {G : Nat → pd_V} (H : pd_BI a_there a_parents L rk) (hst : pd_ST f_stacked a_stack L)
    (hG : pd_LE a_parents a_wishedPlaces a_wishedSizes a_shifts a_visible a_enabled a_layouts a_gaps a_weights L G) (hp : p = 0 ∨ p ∈ L) (ha : a < 2) (hl : a_layouts p = nI (a + 1)) (hPA : pd_PA G a_places a_sizes p)
    (h : ∀ pl sz, pd_Mo a_places pl (pd_cP G) → pd_Mo a_sizes sz (pd_cS G) → (∀ c, c ∈ pd_kd a_parents L p → pd_PA G pl sz c) → post (f_stacked, f_treeSize, f_over, f_pressed, f_focus, f_waiting, f_noteCount, a_there, a_parents, a_kinds, a_colours, a_weights, a_gaps, a_layouts, a_values, a_effects, a_targets, a_visible, a_enabled, a_on, a_wishedPlaces, a_wishedSizes, a_shifts, a_stack, a_tree, a_seen, a_able, pl, sz, a_clipStarts, a_clipEnds, a_eventKinds, a_eventXs, a_eventYs, a_notes, a_pixels)) :
    wpX_placeInLine post (f_stacked, f_treeSize, f_over, f_pressed, f_focus, f_waiting, f_noteCount, a_there, a_parents, a_kinds, a_colours, a_weights, a_gaps, a_layouts, a_values, a_effects, a_targets, a_visible, a_enabled, a_on, a_wishedPlaces, a_wishedSizes, a_shifts, a_stack, a_tree, a_seen, a_able, a_places, a_sizes, a_clipStarts, a_clipEnds, a_eventKinds, a_eventXs, a_eventYs, a_notes, a_pixels) (nI p) (nI a) := by
  have hp12 := pd_12lt H.2.1 hp
  have hL := pd_len11 H.1 H.2.1
  have hc : ∀ c, c ∈ L → c < 12 := fun c hc => (H.2.1 c hc).2
  obtain ⟨vI, cI⟩ := px_ix hp12 ha
  have pa := hPA a ha
  have hl0 : ¬ a_layouts p = 0 := by rw [hl]; exact nI_ne0 (by omega) (by omega)
  have hla : ¬ a_layouts p = nI ((1 - a) + 1) := by rw [hl]; exact fun z => by have := pd_im z (by omega) (by omega); omega
  have PL := pd_LEp H hG hp hl0 hl
  obtain ⟨rfl, hs⟩ := hst
  refine px_llo hp12 ha hL ⟨rfl, hs⟩ hc ⟨L.length + 1, px_sow4 (N := L.length) (by omega) L 0 (L.length + 1) 0 hs (by omega) (by omega) hc ⟨L.length + 1, px_sos6 (N := L.length) (by omega) L 0 (L.length + 1) 0 hs (by omega) (by omega) hc ?_⟩⟩
  rw [pa.2]
  refine nm_e ⟨vI, vI, nm_r (e' := (G p).1 a - a_shifts (2 * p + a)) (by rw [cI, pa.1]) ⟨L.length + 1, ?_⟩⟩
  exact px_ln52 (G := G) hp12 ha (N := L.length) (by omega) L 0 (L.length + 1) _ _ a_places a_sizes hs (by omega) (by omega) hc hPA
    (fun c hc hv b => pd_Ghid hG hp hc hl0 hv b) (fun c hc hv => pd_Gacr hG hp hc hl0 hv hla) PL h
theorem pd_CAm {G : Nat → pd_V} {se ab cs ce se' ab' cs' ce' : Nat → Int32} (h1 : pd_Mo se se' (fun j => (G j).2.2.1)) (h2 : pd_Mo ab ab' (fun j => (G j).2.2.2.1)) (h3 : pd_Mo cs cs' (pd_cC G)) (h4 : pd_Mo ce ce' (pd_cE G)) {w : Nat} (h : pd_CA G se ab cs ce w) : pd_CA G se' ab' cs' ce' w :=
  ⟨h1 w h.1, h2 w h.2.1, fun a ha => ⟨(h3 _ ((h.2.2 a ha).1.trans (pd_cCa G ha).symm)).trans (pd_cCa G ha), (h4 _ ((h.2.2 a ha).2.trans (pd_cEa G ha).symm)).trans (pd_cEa G ha)⟩⟩
theorem px_set43 {post : SX → Prop} {L : List Nat} {rk : Nat → Nat} {G : Nat → pd_V} {N : Nat} (H : pd_BI a_there a_parents L rk) (hst : pd_ST f_stacked a_stack L) (hN : N ≤ 12)
    (hG : pd_LE a_parents a_wishedPlaces a_wishedSizes a_shifts a_visible a_enabled a_layouts a_gaps a_weights L G) (hla : ∀ c, c < 12 → ∃ k, k ≤ 2 ∧ a_layouts c = nI k) :
    ∀ (R S : List Nat) (i n : Nat) (se ab pl sz cs ce : Nat → Int32), pd_sg a_tree i R → i + R.length = N → R.length < n → pd_pb a_parents S R → (∀ w, w ∈ R → w = 0 ∨ w ∈ L) →
    (∀ w, w ∈ S → pd_CA G se ab cs ce w) → (∀ w, w ∈ S → w < 12) → pd_PA G pl sz 0 → (∀ c p, c ∈ L → p ∈ S → a_parents c = nI p → pd_PA G pl sz c) →
    (∀ se' ab' pl' sz' cs' ce', (∀ w, w ∈ S ∨ w ∈ R → pd_CA G se' ab' cs' ce' w) → pd_PA G pl' sz' 0 → (∀ c p, c ∈ L → p ∈ S ∨ p ∈ R → a_parents c = nI p → pd_PA G pl' sz' c) →
      post (f_stacked, nI N, f_over, f_pressed, f_focus, f_waiting, f_noteCount, a_there, a_parents, a_kinds, a_colours, a_weights, a_gaps, a_layouts, a_values, a_effects, a_targets, a_visible, a_enabled, a_on, a_wishedPlaces, a_wishedSizes, a_shifts, a_stack, a_tree, se', ab', pl', sz', cs', ce', a_eventKinds, a_eventXs, a_eventYs, a_notes, a_pixels)) →
    wX_settle_43 post n (nI i) f_stacked (nI N) f_over f_pressed f_focus f_waiting f_noteCount a_there a_parents a_kinds a_colours a_weights a_gaps a_layouts a_values a_effects a_targets a_visible a_enabled a_on a_wishedPlaces a_wishedSizes a_shifts a_stack a_tree se ab pl sz cs ce a_eventKinds a_eventXs a_eventYs a_notes a_pixels := by
  intro R
  induction R with
  | nil =>
    intro S i n se ab pl sz cs ce _ hi hn _ _ hC _ h0 hP h
    obtain ⟨n, rfl⟩ : ∃ m, n = m + 1 := ⟨n - 1, by omega⟩
    rw [wX_settle_43]
    have hi' : i = N := hi
    exact br_t (by rw [hi']; exact Int32.le_refl _) (h se ab pl sz cs ce (fun w hw => hC w (hw.elim id (fun z => by cases z))) h0 (fun c p hc hp => hP c p hc (hp.elim id (fun z => by cases z))))
  | cons w R ih =>
    intro S i n se ab pl sz cs ce htr hi hn hpb hR hC hS h0 hP h
    obtain ⟨n, rfl⟩ : ∃ m, n = m + 1 := ⟨n - 1, by omega⟩
    rw [List.length_cons] at hi hn
    have hw : w = 0 ∨ w ∈ L := hR w (List.mem_cons_self ..)
    have hw12 := pd_12lt H.2.1 hw
    have hPw : pd_PA G pl sz w := by
      cases hw with
      | inl e => subst e; exact h0
      | inr e =>
        rcases hpb.1 with e0 | ⟨p, hp, ep⟩
        · subst e0; exact h0
        · exact hP w p e hp ep
    have hup : pd_up G a_parents a_wishedPlaces a_wishedSizes a_shifts a_visible a_enabled a_layouts a_gaps a_weights L se ab cs ce w := by
      by_cases e0 : w = 0
      · subst e0; exact Or.inl ⟨rfl, H.2.2.2.1, hG.1⟩
      · have hwL : w ∈ L := hw.resolve_left e0
        rcases hpb.1 with e0' | ⟨p, hp, ep⟩
        · exact absurd e0' e0
        · obtain ⟨q, hq, eq, _⟩ := H.2.2.2.2 w hwL
          have hq12 := pd_12lt H.2.1 hq
          have : q = p := pd_im (eq.symm.trans ep) (by omega) (by have := hS p hp; omega)
          subst this
          exact Or.inr ⟨q, hq12, ep, hC q hp, hG.2 w q hwL hq ep⟩
    rw [wX_settle_43]
    refine br_f (nI_ge (by omega) (by omega)) ⟨vp_in_nI (by omega) (by omega), nm_r (e' := nI w) (by rw [pd_cl (by omega)]; exact htr.1) ?_⟩
    refine px_inh (G := G) (L := L) hw12 hPw hup (fun se1 ab1 cs1 ce1 m1 m2 m3 m4 hCw => ⟨vp_in_nI hw12 (by omega), ?_⟩)
    rw [pd_cl (n := w) (by omega)]
    have fin : ∀ pl1 sz1, pd_Mo pl pl1 (pd_cP G) → pd_Mo sz sz1 (pd_cS G) → (∀ c, c ∈ pd_kd a_parents L w → pd_PA G pl1 sz1 c) →
        wX_settle_43 post n (nI (i + 1)) f_stacked (nI N) f_over f_pressed f_focus f_waiting f_noteCount a_there a_parents a_kinds a_colours a_weights a_gaps a_layouts a_values a_effects a_targets a_visible a_enabled a_on a_wishedPlaces a_wishedSizes a_shifts a_stack a_tree se1 ab1 pl1 sz1 cs1 ce1 a_eventKinds a_eventXs a_eventYs a_notes a_pixels := by
      intro pl1 sz1 m5 m6 hK
      refine ih (w :: S) (i + 1) n se1 ab1 pl1 sz1 cs1 ce1 htr.2 (by omega) (by omega) hpb.2 (fun v hv => hR v (List.mem_cons_of_mem _ hv)) (fun v hv => ?_) (fun v hv => ?_) (pd_PAm m5 m6 h0) (fun c p hc hp ep => ?_) (fun se2 ab2 pl2 sz2 cs2 ce2 k1 k2 k3 => ?_)
      · cases List.mem_cons.mp hv with
        | inl e => subst e; exact hCw
        | inr e => exact pd_CAm m1 m2 m3 m4 (hC v e)
      · cases List.mem_cons.mp hv with
        | inl e => subst e; exact hw12
        | inr e => exact hS v e
      · cases List.mem_cons.mp hp with
        | inl e => subst e; exact hK c (pd_mkd.mpr ⟨hc, ep⟩)
        | inr e => exact pd_PAm m5 m6 (hP c p hc e ep)
      · have mm : ∀ v, v ∈ S ∨ v ∈ w :: R → v ∈ w :: S ∨ v ∈ R := by
          intro v hv
          rcases hv with z | z
          · exact Or.inl (List.mem_cons_of_mem _ z)
          · cases List.mem_cons.mp z with
            | inl e => exact Or.inl (by rw [e]; exact List.mem_cons_self ..)
            | inr e => exact Or.inr e
        exact h se2 ab2 pl2 sz2 cs2 ce2 (fun v hv => k1 v (mm v hv)) k2 (fun c p hc hp ep => k3 c p hc (mm p hp) ep)
    obtain ⟨k, hk, ek⟩ := hla w hw12
    by_cases e0 : k = 0
    · subst e0
      have el : a_layouts w = 0 := ek
      obtain ⟨rfl, hs⟩ := hst
      have hL := pd_len11 H.1 H.2.1
      refine br_t el ⟨L.length + 1, px_pb2 (G := G) (N := L.length) hw12 (by omega) L 0 (L.length + 1) pl sz hs (by omega) (by omega) (fun c hc => (H.2.1 c hc).2) hPw (fun c hc a => pd_Gfree hG hw hc el a) (fun pl1 sz1 m5 m6 hK => nm_r (nI_1 i) (fin pl1 sz1 m5 m6 hK))⟩
    · have el : ¬ a_layouts w = 0 := by rw [ek]; exact nI_ne0 (by omega) (by omega)
      refine br_f el ⟨vp_in_nI hw12 (by omega), ?_⟩
      rw [ek, pd_s (by omega)]
      exact px_line (G := G) H hst hG hw (a := k - 1) (by omega) (by rw [ek]; congr 1; omega) hPw (fun pl1 sz1 m5 m6 hK => nm_r (nI_1 i) (fin pl1 sz1 m5 m6 hK))
theorem px_settle {L : List Nat} {rk : Nat → Nat} (H : pd_BI a_there a_parents L rk) (hst : pd_ST f_stacked a_stack L) (hV : pd_VA a_wishedPlaces a_wishedSizes a_weights a_layouts a_targets a_shifts) {post : SX → Prop}
    (h : ∀ tn tr se ab pl sz cs ce, pd_DE a_parents a_wishedPlaces a_wishedSizes a_shifts a_visible a_enabled a_layouts a_gaps a_weights L tn tr se ab pl sz cs ce →
      post (f_stacked, tn, f_over, f_pressed, f_focus, f_waiting, f_noteCount, a_there, a_parents, a_kinds, a_colours, a_weights, a_gaps, a_layouts, a_values, a_effects, a_targets, a_visible, a_enabled, a_on, a_wishedPlaces, a_wishedSizes, a_shifts, a_stack, tr, se, ab, pl, sz, cs, ce, a_eventKinds, a_eventXs, a_eventYs, a_notes, a_pixels)) : wpX_settle post (f_stacked, f_treeSize, f_over, f_pressed, f_focus, f_waiting, f_noteCount, a_there, a_parents, a_kinds, a_colours, a_weights, a_gaps, a_layouts, a_values, a_effects, a_targets, a_visible, a_enabled, a_on, a_wishedPlaces, a_wishedSizes, a_shifts, a_stack, a_tree, a_seen, a_able, a_places, a_sizes, a_clipStarts, a_clipEnds, a_eventKinds, a_eventXs, a_eventYs, a_notes, a_pixels) := by
  obtain ⟨G, hG⟩ := pd_Gex a_wishedPlaces a_wishedSizes a_shifts a_visible a_enabled a_layouts a_gaps a_weights H
  have hO := pd_ordW H
  have hl := pd_ordL H
  unfold wpX_settle
  refine px_order H hst (fun tr htr => ⟨3, ?_⟩)
  show wX_settle_6 post f_stacked (nI (pd_ord a_parents L).length) f_over f_pressed f_focus f_waiting f_noteCount 3 (nI 0) a_there a_parents a_kinds a_colours a_weights a_gaps a_layouts a_values a_effects a_targets a_visible a_enabled a_on a_wishedPlaces a_wishedSizes a_shifts a_stack tr a_seen a_able a_places a_sizes a_clipStarts a_clipEnds a_eventKinds a_eventXs a_eventYs a_notes a_pixels
  rw [wX_settle_6]
  refine br_f (by decide) ⟨vp_in_nI (by omega) (by omega), vp_in_nI (by omega) (by omega), nm_r (e' := upd a_places 0 (a_wishedPlaces 0)) (by rw [pd_cl (by omega)]) ⟨vp_in_nI (by omega) (by omega), vp_in_nI (by omega) (by omega), nm_r (e' := upd a_sizes 0 (a_wishedSizes 0)) (by rw [pd_cl (by omega)]) (nm_r (nI_1 0) ?_)⟩⟩
  rw [wX_settle_6]
  refine br_f (by decide) ⟨vp_in_nI (by omega) (by omega), vp_in_nI (by omega) (by omega), nm_r (e' := upd (upd a_places 0 (a_wishedPlaces 0)) 1 (a_wishedPlaces 1)) (by rw [pd_cl (by omega)]) ⟨vp_in_nI (by omega) (by omega), vp_in_nI (by omega) (by omega), nm_r (e' := upd (upd a_sizes 0 (a_wishedSizes 0)) 1 (a_wishedSizes 1)) (by rw [pd_cl (by omega)]) (nm_r (nI_1 1) ?_)⟩⟩
  rw [wX_settle_6]
  refine br_t (by decide) ⟨(pd_ord a_parents L).length + 1, ?_⟩
  refine px_set43 (G := G) H hst hl hG hV.2.2.1 (pd_ord a_parents L) [] 0 _ a_seen a_able _ _ a_clipStarts a_clipEnds htr (by omega) (by omega) hO.2 (fun w hw => (pd_ordM H w).mp hw) (fun w hw => by cases hw) (fun w hw => by cases hw) (fun a ha => ?_) (fun c p _ hp => by cases hp) (fun se ab pl sz cs ce k1 k2 k3 => ?_)
  · rw [hG.1]
    have : a = 0 ∨ a = 1 := by omega
    rcases this with rfl | rfl
    · show upd (upd a_places 0 (a_wishedPlaces 0)) 1 (a_wishedPlaces 1) 0 = a_wishedPlaces 0 ∧ upd (upd a_sizes 0 (a_wishedSizes 0)) 1 (a_wishedSizes 1) 0 = a_wishedSizes 0
      rw [pd_un (by omega), pd_us, pd_un (by omega), pd_us]; exact ⟨rfl, rfl⟩
    · show upd (upd a_places 0 (a_wishedPlaces 0)) 1 (a_wishedPlaces 1) 1 = a_wishedPlaces 1 ∧ upd (upd a_sizes 0 (a_wishedSizes 0)) 1 (a_wishedSizes 1) 1 = a_wishedSizes 1
      rw [pd_us, pd_us]; exact ⟨rfl, rfl⟩
  · refine h _ tr se ab pl sz cs ce ⟨G, hG, rfl, htr, fun w hw => pd_DApc ?_ (k1 w (Or.inr ((pd_ordM H w).mpr hw)))⟩
    cases hw with
    | inl e => subst e; exact k2
    | inr e =>
      obtain ⟨p, hp, ep, _⟩ := H.2.2.2.2 w e
      exact k3 w p e (Or.inr ((pd_ordM H p).mpr hp)) ep
end PDI
end
section
section PDJ
variable {g_many g_waiting g_noteCount g_over g_pressed g_focus g_acted : Int32} {b_there b_kind b_wishX b_wishY b_wishW b_wishH b_colour b_layout b_gap b_weight b_shiftX b_shiftY b_visible b_enabled b_on b_value b_parent b_effects b_targets b_kids b_kidCount b_left b_top b_width b_height b_order b_stack b_pixels b_events b_notes : Nat → Int32}
/-! R: Y: a widget out of its parent's kids, and in again -/
theorem py_take15 {post : SY → Prop} {w p N : Nat} (hw : w < 12) (hp : p < 12) (hN : N ≤ 12) (epa : b_parent w = nI p) (hk : b_kidCount p = nI N) (f : Nat → Int32) :
    ∀ (R A : List Nat) (i n : Nat) (ki : Nat → Int32), pd_sg ki (12 * p) A → pd_sg ki (12 * p + i) R → A.length ≤ i → i + R.length = N → R.length < n → (∀ c, c ∈ R → c < 12) →
    (∀ j, (j < 12 * p ∨ 12 * p + 12 ≤ j) → ki j = f j) →
    (∀ ki', pd_sg ki' (12 * p) (A ++ pd_rm R w) → (∀ j, (j < 12 * p ∨ 12 * p + 12 ≤ j) → ki' j = f j) → post (g_many, g_waiting, g_noteCount, g_over, g_pressed, g_focus, g_acted, b_there, b_kind, b_wishX, b_wishY, b_wishW, b_wishH, b_colour, b_layout, b_gap, b_weight, b_shiftX, b_shiftY, b_visible, b_enabled, b_on, b_value, b_parent, b_effects, b_targets, ki', upd b_kidCount p (nI (A ++ pd_rm R w).length), b_left, b_top, b_width, b_height, b_order, b_stack, b_pixels, b_events, b_notes)) →
    wY_takeOut_15 post (nI w) (nI (12 * p)) g_many g_waiting g_noteCount g_over g_pressed g_focus g_acted n (nI A.length) (nI i) b_there b_kind b_wishX b_wishY b_wishW b_wishH b_colour b_layout b_gap b_weight b_shiftX b_shiftY b_visible b_enabled b_on b_value b_parent b_effects b_targets ki b_kidCount b_left b_top b_width b_height b_order b_stack b_pixels b_events b_notes := by
  have vw : vp_in (nI w) 12 := vp_in_nI hw (by omega)
  have cw : (nI w).toNatClampNeg = w := pd_cl (by omega)
  have vp : vp_in (nI p) 12 := vp_in_nI hp (by omega)
  have cp : (nI p).toNatClampNeg = p := pd_cl (by omega)
  intro R
  induction R with
  | nil =>
    intro A i n ki hA _ hl hi hn _ hf h
    obtain ⟨n, rfl⟩ : ∃ m, n = m + 1 := ⟨n - 1, by omega⟩
    have hi' : i = N := hi
    rw [wY_takeOut_15]
    dsimp only
    rw [cw, epa, cp, hk]
    refine ⟨vw, vp, br_t (by rw [hi']; exact Int32.le_refl _) ⟨vw, vp, nm_r (e' := upd b_kidCount p (nI (A ++ pd_rm [] w).length)) ?_ (h ki ?_ hf)⟩⟩
    · simp [pd_rm]
    · simpa [pd_rm] using hA
  | cons c R ih =>
    intro A i n ki hA hR hl hi hn hc hf h
    obtain ⟨n, rfl⟩ : ∃ m, n = m + 1 := ⟨n - 1, by omega⟩
    rw [List.length_cons] at hi hn
    have hc12 : c < 12 := hc c (List.mem_cons_self ..)
    have hcR : ∀ d, d ∈ R → d < 12 := fun d hd => hc d (List.mem_cons_of_mem _ hd)
    have v4 : vp_in (nI (12 * p) + nI i) 144 := by rw [nI_add]; exact vp_in_nI (by omega) (by omega)
    have c4 : (nI (12 * p) + nI i).toNatClampNeg = 12 * p + i := by rw [nI_add]; exact pd_cl (by omega)
    have v3 : vp_in (nI (12 * p) + nI A.length) 144 := by rw [nI_add]; exact vp_in_nI (by omega) (by omega)
    have c3 : (nI (12 * p) + nI A.length).toNatClampNeg = 12 * p + A.length := by rw [nI_add]; exact pd_cl (by omega)
    have ek : ki (12 * p + i) = nI c := hR.1
    rw [wY_takeOut_15]
    dsimp only
    rw [cw, epa, cp, hk, c4, c3, ek]
    refine ⟨vw, vp, br_f (nI_ge (by omega) (by omega)) ⟨v4, ?_⟩⟩
    by_cases e : c = w
    · subst e
      have er : pd_rm (c :: R) c = pd_rm R c := by unfold pd_rm; simp
      rw [er] at h
      exact br_t rfl (nm_r (nI_1 i) (ih A (i + 1) n ki hA hR.2 (by omega) (by omega) (by omega) hcR hf h))
    · have er : pd_rm (c :: R) w = c :: pd_rm R w := by unfold pd_rm; simp [e]
      rw [er] at h
      obtain ⟨s1, s2⟩ := pd_cmp hA hR hl
      have hne : ¬ nI c = nI w := fun z => e (pd_im z (by omega) (by omega))
      refine br_f hne (nm_r (nI_1 A.length) ⟨v4, v3, nm_e (nm_r (nI_1 i) ?_)⟩)
      have k := ih (A ++ [c]) (i + 1) n _ s1 s2 (by rw [List.length_append, List.length_singleton]; omega) (by omega) (by omega) hcR (fun j hj => by rw [pd_un (by omega)]; exact hf j hj) (by simpa using h)
      rw [List.length_append, List.length_singleton] at k
      exact k
theorem py_take {post : SY → Prop} {w p : Nat} {K : List Nat} (hw : w < 12) (hp : p < 12) (hN : K.length ≤ 12) (epa : b_parent w = nI p) (hk : b_kidCount p = nI K.length) (hs : pd_sg b_kids (12 * p) K) (hc : ∀ c, c ∈ K → c < 12)
    (h : ∀ ki, pd_sg ki (12 * p) (pd_rm K w) → (∀ j, (j < 12 * p ∨ 12 * p + 12 ≤ j) → ki j = b_kids j) → post (g_many, g_waiting, g_noteCount, g_over, g_pressed, g_focus, g_acted, b_there, b_kind, b_wishX, b_wishY, b_wishW, b_wishH, b_colour, b_layout, b_gap, b_weight, b_shiftX, b_shiftY, b_visible, b_enabled, b_on, b_value, b_parent, b_effects, b_targets, ki, upd b_kidCount p (nI (pd_rm K w).length), b_left, b_top, b_width, b_height, b_order, b_stack, b_pixels, b_events, b_notes)) : wpY_takeOut post (g_many, g_waiting, g_noteCount, g_over, g_pressed, g_focus, g_acted, b_there, b_kind, b_wishX, b_wishY, b_wishW, b_wishH, b_colour, b_layout, b_gap, b_weight, b_shiftX, b_shiftY, b_visible, b_enabled, b_on, b_value, b_parent, b_effects, b_targets, b_kids, b_kidCount, b_left, b_top, b_width, b_height, b_order, b_stack, b_pixels, b_events, b_notes) (nI w) := by
  refine ⟨vp_in_nI hw (by omega), nm_r (e' := nI (12 * p)) (by rw [pd_cl (by omega), epa, pd_12]) ⟨K.length + 1, ?_⟩⟩
  exact py_take15 hw hp hN epa hk b_kids K [] 0 (K.length + 1) b_kids trivial hs (by simp) (by omega) (by omega) hc (fun _ _ => rfl) h
theorem pd_rml (K : List Nat) (w : Nat) : (pd_rm K w).length ≤ K.length := List.length_filter_le _ _
theorem py_hi {post : SY → Prop} {w p : Nat} {K : List Nat} (hw : w < 12) (hp : p < 12) (hN : K.length ≤ 11) (epa : b_parent w = nI p) (hk : b_kidCount p = nI K.length) (hs : pd_sg b_kids (12 * p) K) (hc : ∀ c, c ∈ K → c < 12)
    (h : ∀ ki, pd_sg ki (12 * p) (pd_rm K w ++ [w]) → (∀ j, (j < 12 * p ∨ 12 * p + 12 ≤ j) → ki j = b_kids j) → post (g_many, g_waiting, g_noteCount, g_over, g_pressed, g_focus, g_acted, b_there, b_kind, b_wishX, b_wishY, b_wishW, b_wishH, b_colour, b_layout, b_gap, b_weight, b_shiftX, b_shiftY, b_visible, b_enabled, b_on, b_value, b_parent, b_effects, b_targets, ki, upd b_kidCount p (nI ((pd_rm K w).length + 1)), b_left, b_top, b_width, b_height, b_order, b_stack, b_pixels, b_events, b_notes)) : wpY_restack post (g_many, g_waiting, g_noteCount, g_over, g_pressed, g_focus, g_acted, b_there, b_kind, b_wishX, b_wishY, b_wishW, b_wishH, b_colour, b_layout, b_gap, b_weight, b_shiftX, b_shiftY, b_visible, b_enabled, b_on, b_value, b_parent, b_effects, b_targets, b_kids, b_kidCount, b_left, b_top, b_width, b_height, b_order, b_stack, b_pixels, b_events, b_notes) (nI w) 1 := by
  have vp : vp_in (nI p) 12 := vp_in_nI hp (by omega)
  have cp : (nI p).toNatClampNeg = p := pd_cl (by omega)
  have hl := pd_rml K w
  refine ⟨vp_in_nI hw (by omega), nm_r (e' := nI p) (by rw [pd_cl (by omega), epa]) (py_take hw hp (by omega) epa hk hs hc (fun ki h1 h2 => ?_))⟩
  refine ⟨vp, vp, nm_r (e' := upd b_kidCount p (nI ((pd_rm K w).length + 1))) (by rw [cp, pd_us, pd_uu, nI_1]) (nm_r (e' := nI (pd_rm K w).length) (by rw [cp, pd_us]) ⟨1, ?_⟩)⟩
  have f70 : wY_restack_70 post (nI w) 1 (nI p) (nI (pd_rm K w).length) g_many g_waiting g_noteCount g_over g_pressed g_focus g_acted b_there b_kind b_wishX b_wishY b_wishW b_wishH b_colour b_layout b_gap b_weight b_shiftX b_shiftY b_visible b_enabled b_on b_value b_parent b_effects b_targets ki (upd b_kidCount p (nI ((pd_rm K w).length + 1))) b_left b_top b_width b_height b_order b_stack b_pixels b_events b_notes := by
    have e : 12 * nI p + nI (pd_rm K w).length = nI (12 * p + (pd_rm K w).length) := pd_12b _ _
    refine br_f (by decide) ⟨by rw [e]; exact vp_in_nI (by omega) (by omega), nm_r (e' := upd ki (12 * p + (pd_rm K w).length) (nI w)) (by rw [e, pd_cl (by omega)]) (h _ ?_ (fun j hj => by rw [pd_un (by omega)]; exact h2 j hj))⟩
    exact (pd_sg_a _ [w] _).mpr ⟨pd_sg_c _ _ h1 (fun j _ hj => pd_un (by omega)), pd_us, trivial⟩
  rw [wY_restack_29]
  exact br_c (fun _ => f70) (fun _ => br_f (by decide) f70)
theorem py_lo {post : SY → Prop} {w p : Nat} {K : List Nat} (hw : w < 12) (hp : p < 12) (hN : K.length ≤ 11) (epa : b_parent w = nI p) (hk : b_kidCount p = nI K.length) (hs : pd_sg b_kids (12 * p) K) (hc : ∀ c, c ∈ K → c < 12)
    (h : ∀ ki, pd_sg ki (12 * p) (w :: pd_rm K w) → (∀ j, (j < 12 * p ∨ 12 * p + 12 ≤ j) → ki j = b_kids j) → post (g_many, g_waiting, g_noteCount, g_over, g_pressed, g_focus, g_acted, b_there, b_kind, b_wishX, b_wishY, b_wishW, b_wishH, b_colour, b_layout, b_gap, b_weight, b_shiftX, b_shiftY, b_visible, b_enabled, b_on, b_value, b_parent, b_effects, b_targets, ki, upd b_kidCount p (nI ((pd_rm K w).length + 1)), b_left, b_top, b_width, b_height, b_order, b_stack, b_pixels, b_events, b_notes)) : wpY_restack post (g_many, g_waiting, g_noteCount, g_over, g_pressed, g_focus, g_acted, b_there, b_kind, b_wishX, b_wishY, b_wishW, b_wishH, b_colour, b_layout, b_gap, b_weight, b_shiftX, b_shiftY, b_visible, b_enabled, b_on, b_value, b_parent, b_effects, b_targets, b_kids, b_kidCount, b_left, b_top, b_width, b_height, b_order, b_stack, b_pixels, b_events, b_notes) (nI w) 0 := by
  have vp : vp_in (nI p) 12 := vp_in_nI hp (by omega)
  have cp : (nI p).toNatClampNeg = p := pd_cl (by omega)
  have hl := pd_rml K w
  refine ⟨vp_in_nI hw (by omega), nm_r (e' := nI p) (by rw [pd_cl (by omega), epa]) (py_take hw hp (by omega) epa hk hs hc (fun ki h1 h2 => ?_))⟩
  refine ⟨vp, vp, nm_r (e' := upd b_kidCount p (nI ((pd_rm K w).length + 1))) (by rw [cp, pd_us, pd_uu, nI_1]) (nm_r (e' := nI (pd_rm K w).length) (by rw [cp, pd_us]) ⟨(pd_rm K w).length + 1, ?_⟩)⟩
  have go : ∀ (d n : Nat), d ≤ (pd_rm K w).length → d < n → wY_restack_29 post (nI w) 0 (nI p) (nI (pd_rm K w).length) g_many g_waiting g_noteCount g_over g_pressed g_focus g_acted n (nI d) b_there b_kind b_wishX b_wishY b_wishW b_wishH b_colour b_layout b_gap b_weight b_shiftX b_shiftY b_visible b_enabled b_on b_value b_parent b_effects b_targets (pd_H ki (12 * p + (pd_rm K w).length) (12 * p + d)) (upd b_kidCount p (nI ((pd_rm K w).length + 1))) b_left b_top b_width b_height b_order b_stack b_pixels b_events b_notes := by
    intro d
    induction d with
    | zero =>
      intro n _ hn
      obtain ⟨n, rfl⟩ : ∃ m, n = m + 1 := ⟨n - 1, by omega⟩
      rw [wY_restack_29]
      have e : 12 * nI p + 0 = nI (12 * p) := by rw [pd_12, Int32.add_zero]
      refine br_t (Int32.le_refl _) (br_t rfl ⟨by rw [e]; exact vp_in_nI (by omega) (by omega), nm_r (e' := upd (pd_H ki (12 * p + (pd_rm K w).length) (12 * p)) (12 * p) (nI w)) (by rw [e, pd_cl (by omega)]; rfl) (h _ ⟨pd_us, ?_⟩ (fun j hj => ?_))⟩)
      · refine pd_sg_s _ _ h1 (fun j h3 h4 => ?_)
        rw [pd_un (by omega)]
        exact if_pos (by omega)
      · rw [pd_un (by omega)]
        exact (if_neg (by omega)).trans (h2 j hj)
    | succ d ih =>
      intro n hd hn
      obtain ⟨n, rfl⟩ : ∃ m, n = m + 1 := ⟨n - 1, by omega⟩
      rw [wY_restack_29]
      have e : 12 * nI p + nI (d + 1) = nI (12 * p + d + 1) := pd_12b _ _
      have e' : nI (12 * p + d + 1) - 1 = nI (12 * p + d) := nI_pred _
      refine br_f (nI_nle (by omega) (by omega)) (br_t rfl ?_)
      rw [e, e', pd_cl (by omega), pd_cl (by omega)]
      refine ⟨vp_in_nI (by omega) (by omega), vp_in_nI (by omega) (by omega), nm_r (e' := pd_H ki (12 * p + (pd_rm K w).length) (12 * p + d)) ?_ (nm_r (pd_m1 d) (ih n (by omega) (by omega)))⟩
      show upd (pd_H ki (12 * p + (pd_rm K w).length) (12 * p + d + 1)) (12 * p + d + 1) (pd_H ki (12 * p + (pd_rm K w).length) (12 * p + d + 1) (12 * p + d)) = _
      rw [pd_Hg']
      exact pd_H1 ki (by omega)
  have k := go (pd_rm K w).length ((pd_rm K w).length + 1) (Nat.le_refl _) (by omega)
  rw [pd_H0] at k
  exact k
end PDJ
end
section
section PDK
variable {f_stacked f_treeSize f_over f_pressed f_focus f_waiting f_noteCount : Int32} {a_there a_parents a_kinds a_colours a_weights a_gaps a_layouts a_values a_effects a_targets a_visible a_enabled a_on a_wishedPlaces a_wishedSizes a_shifts a_stack a_tree a_seen a_able a_places a_sizes a_clipStarts a_clipEnds a_eventKinds a_eventXs a_eventYs a_notes a_pixels : Nat → Int32}
variable {g_many g_waiting g_acted : Int32} {b_kids b_kidCount b_left b_top b_width b_height b_order b_stack b_events : Nat → Int32}
/-! S: Y: rectangles() -/
def pd_YA (G : Nat → pd_V) (lf tp wd hg : Nat → Int32) (c : Nat) : Prop := lf c = (G c).1 0 ∧ tp c = (G c).1 1 ∧ wd c = (G c).2.1 0 ∧ hg c = (G c).2.1 1
theorem pd_YAu (G : Nat → pd_V) (lf tp wd hg : Nat → Int32) (c : Nat) : pd_YA G (upd lf c ((G c).1 0)) (upd tp c ((G c).1 1)) (upd wd c ((G c).2.1 0)) (upd hg c ((G c).2.1 1)) c := ⟨pd_us, pd_us, pd_us, pd_us⟩
theorem pd_YAm (G : Nat → pd_V) (lf tp wd hg : Nat → Int32) (c : Nat) : ∀ d, pd_YA G lf tp wd hg d → pd_YA G (upd lf c ((G c).1 0)) (upd tp c ((G c).1 1)) (upd wd c ((G c).2.1 0)) (upd hg c ((G c).2.1 1)) d := by
  intro d h
  by_cases e : d = c
  · subst e; exact pd_YAu G lf tp wd hg d
  · exact ⟨(pd_un e).trans h.1, (pd_un e).trans h.2.1, (pd_un e).trans h.2.2.1, (pd_un e).trans h.2.2.2⟩
theorem py_free5 {post : SY → Prop} {p N : Nat} {G : Nat → pd_V} (hp : p < 12) (hN : N ≤ 12) (hk : b_kidCount p = nI N) :
    ∀ (R : List Nat) (i n : Nat) (lf tp wd hg : Nat → Int32), pd_sg b_kids (12 * p + i) R → i + R.length = N → R.length < n → (∀ c, c ∈ R → c < 12) → pd_YA G lf tp wd hg p →
    (∀ c, c ∈ R → ∀ a, (G c).1 a = (G p).1 a + a_wishedPlaces (2 * c + a) - a_shifts (2 * p + a) ∧ (G c).2.1 a = a_wishedSizes (2 * c + a)) →
    (∀ lf' tp' wd' hg', (∀ c, pd_YA G lf tp wd hg c → pd_YA G lf' tp' wd' hg' c) → (∀ c, c ∈ R → pd_YA G lf' tp' wd' hg' c) → post (g_many, g_waiting, f_noteCount, f_over, f_pressed, f_focus, g_acted, a_there, a_kinds, (fun j => a_wishedPlaces (2 * j)), (fun j => a_wishedPlaces (2 * j + 1)), (fun j => a_wishedSizes (2 * j)), (fun j => a_wishedSizes (2 * j + 1)), a_colours, a_layouts, a_gaps, a_weights, (fun j => a_shifts (2 * j)), (fun j => a_shifts (2 * j + 1)), a_visible, a_enabled, a_on, a_values, a_parents, a_effects, a_targets, b_kids, b_kidCount, lf', tp', wd', hg', b_order, b_stack, a_pixels, b_events, a_notes)) →
    wY_free_5 post (nI p) g_many g_waiting f_noteCount f_over f_pressed f_focus g_acted n (nI (12 * p + i)) a_there a_kinds (fun j => a_wishedPlaces (2 * j)) (fun j => a_wishedPlaces (2 * j + 1)) (fun j => a_wishedSizes (2 * j)) (fun j => a_wishedSizes (2 * j + 1)) a_colours a_layouts a_gaps a_weights (fun j => a_shifts (2 * j)) (fun j => a_shifts (2 * j + 1)) a_visible a_enabled a_on a_values a_parents a_effects a_targets b_kids b_kidCount lf tp wd hg b_order b_stack a_pixels b_events a_notes := by
  have vp : vp_in (nI p) 12 := vp_in_nI hp (by omega)
  have cp : (nI p).toNatClampNeg = p := pd_cl (by omega)
  intro R
  induction R with
  | nil =>
    intro i n lf tp wd hg _ hi hn _ _ _ h
    obtain ⟨n, rfl⟩ : ∃ m, n = m + 1 := ⟨n - 1, by omega⟩
    have hi' : i = N := hi
    rw [wY_free_5]
    dsimp only
    rw [cp, hk, pd_12b]
    exact ⟨vp, br_t (by rw [hi']; exact Int32.le_refl _) (h lf tp wd hg (fun _ z => z) (fun c hc => by cases hc))⟩
  | cons c R ih =>
    intro i n lf tp wd hg hs hi hn hc hA hg' h
    obtain ⟨n, rfl⟩ : ∃ m, n = m + 1 := ⟨n - 1, by omega⟩
    rw [List.length_cons] at hi hn
    have hc12 : c < 12 := hc c (List.mem_cons_self ..)
    have vc : vp_in (nI c) 12 := vp_in_nI hc12 (by omega)
    have cc : (nI c).toNatClampNeg = c := pd_cl (by omega)
    have h0 := hg' c (List.mem_cons_self ..) 0
    have h1 := hg' c (List.mem_cons_self ..) 1
    rw [wY_free_5]
    dsimp only
    rw [cp, hk, pd_12b]
    refine ⟨vp, br_f (nI_ge (by omega) (by omega)) ⟨vp_in_nI (by omega) (by omega), nm_r (e' := nI c) (by rw [pd_cl (by omega)]; exact hs.1) ?_⟩⟩
    refine ⟨vp, vc, vp, vc, nm_r (e' := upd lf c ((G c).1 0)) (by rw [cc, hA.1]; exact congrArg (upd lf c) h0.1.symm) ?_⟩
    refine ⟨vp, vc, vp, vc, nm_r (e' := upd tp c ((G c).1 1)) (by rw [cc, hA.2.1]; exact congrArg (upd tp c) h1.1.symm) ?_⟩
    refine ⟨vc, vc, nm_r (e' := upd wd c ((G c).2.1 0)) (by rw [cc]; exact congrArg (upd wd c) h0.2.symm) ?_⟩
    refine ⟨vc, vc, nm_r (e' := upd hg c ((G c).2.1 1)) (by rw [cc]; exact congrArg (upd hg c) h1.2.symm) (nm_r (nI_1 _) ?_)⟩
    refine ih (i + 1) n _ _ _ _ hs.2 (by omega) (by omega) (fun d hd => hc d (List.mem_cons_of_mem _ hd)) (pd_YAm G lf tp wd hg c p hA) (fun d hd => hg' d (List.mem_cons_of_mem _ hd)) (fun lf' tp' wd' hg2 m k => ?_)
    refine h lf' tp' wd' hg2 (fun d hd => m d (pd_YAm G lf tp wd hg c d hd)) (fun d hd => ?_)
    cases List.mem_cons.mp hd with
    | inl e => subst e; exact m d (pd_YAu G lf tp wd hg d)
    | inr e => exact k d e
theorem py_arr400 {post : SY → Prop} {J : _} {p c a i : Nat} {x3 x4 o s x9 v1 v2 v3 v4 : Int32} {lf tp wd hg : Nat → Int32} {G : Nat → pd_V} (hp : p < 12) (hc : c < 12) (ha : a < 2) (hA : pd_YA G lf tp wd hg p) (hne : p ≠ c)
    (h1 : (G c).1 a = s) (h2 : (G c).2.1 a = x9) (h3 : (G c).1 (1 - a) = (G p).1 (1 - a) - a_shifts (2 * p + (1 - a))) (h4 : (G c).2.1 (1 - a) = (G p).2.1 (1 - a))
    (h : J o (s + (x9 + a_gaps p)) (nI (i + 1)) a_there a_kinds (fun j => a_wishedPlaces (2 * j)) (fun j => a_wishedPlaces (2 * j + 1)) (fun j => a_wishedSizes (2 * j)) (fun j => a_wishedSizes (2 * j + 1)) a_colours a_layouts a_gaps a_weights (fun j => a_shifts (2 * j)) (fun j => a_shifts (2 * j + 1)) a_visible a_enabled a_on a_values a_parents a_effects a_targets b_kids b_kidCount (upd lf c ((G c).1 0)) (upd tp c ((G c).1 1)) (upd wd c ((G c).2.1 0)) (upd hg c ((G c).2.1 1)) b_order b_stack a_pixels b_events a_notes) :
    wY_arranged_400 post J (nI p) (nI (1 - a)) x3 x4 o s (nI i) (nI c) x9 g_many g_waiting f_noteCount f_over f_pressed f_focus g_acted a_there a_kinds (fun j => a_wishedPlaces (2 * j)) (fun j => a_wishedPlaces (2 * j + 1)) (fun j => a_wishedSizes (2 * j)) (fun j => a_wishedSizes (2 * j + 1)) a_colours a_layouts a_gaps a_weights (fun j => a_shifts (2 * j)) (fun j => a_shifts (2 * j + 1)) a_visible a_enabled a_on a_values a_parents a_effects a_targets b_kids b_kidCount (upd lf c v1) (upd tp c v2) (upd wd c v3) (upd hg c v4) b_order b_stack a_pixels b_events a_notes := by
  have vp : vp_in (nI p) 12 := vp_in_nI hp (by omega)
  have cp : (nI p).toNatClampNeg = p := pd_cl (by omega)
  have vc : vp_in (nI c) 12 := vp_in_nI hc (by omega)
  have cc : (nI c).toNatClampNeg = c := pd_cl (by omega)
  have hz : a = 0 ∨ a = 1 := by omega
  rcases hz with rfl | rfl
  · have q : ¬ nI (1 - 0) = 0 := by decide
    refine br_f q ⟨vc, nm_r (e' := upd lf c ((G c).1 0)) (by rw [cc, pd_uu, h1]) (br_f q ⟨vp, vp, vc, nm_r (e' := upd tp c ((G c).1 1)) (by rw [cc, cp, pd_uu, pd_un hne, hA.2.1]; exact congrArg (upd tp c) h3.symm) (br_f q ⟨vc, nm_r (e' := upd wd c ((G c).2.1 0)) (by rw [cc, pd_uu, h2]) (br_f q ⟨vp, vc, nm_r (e' := upd hg c ((G c).2.1 1)) (by rw [cc, cp, pd_uu, pd_un hne, hA.2.2.2]; exact congrArg (upd hg c) h4.symm) ⟨vp, nm_r (e' := s + (x9 + a_gaps p)) (by rw [cp]) (nm_r (nI_1 i) h)⟩⟩)⟩)⟩)⟩
  · have q : nI (1 - 1) = 0 := by decide
    refine br_t q ⟨vp, vp, vc, nm_r (e' := upd lf c ((G c).1 0)) (by rw [cc, cp, pd_uu, pd_un hne, hA.1]; exact congrArg (upd lf c) h3.symm) (br_t q ⟨vc, nm_r (e' := upd tp c ((G c).1 1)) (by rw [cc, pd_uu, h1]) (br_t q ⟨vp, vc, nm_r (e' := upd wd c ((G c).2.1 0)) (by rw [cc, cp, pd_uu, pd_un hne, hA.2.2.1]; exact congrArg (upd wd c) h4.symm) (br_t q ⟨vc, nm_r (e' := upd hg c ((G c).2.1 1)) (by rw [cc, pd_uu, h2]) ⟨vp, nm_r (e' := s + (x9 + a_gaps p)) (by rw [cp]) (nm_r (nI_1 i) h)⟩⟩)⟩)⟩)⟩
theorem py_arr355 {post : SY → Prop} {J : _} {p c a i : Nat} {x3 x4 o s z0 : Int32} {lf tp wd hg : Nat → Int32} (hc : c < 12)
    (h1 : 0 < a_weights c ∧ 0 < o → wY_arranged_400 post J (nI p) (nI (1 - a)) x3 x4 (o + (-1)) s (nI i) (nI c) (z0 + pd_sh x3 x4 (a_weights c) + 1) g_many g_waiting f_noteCount f_over f_pressed f_focus g_acted a_there a_kinds (fun j => a_wishedPlaces (2 * j)) (fun j => a_wishedPlaces (2 * j + 1)) (fun j => a_wishedSizes (2 * j)) (fun j => a_wishedSizes (2 * j + 1)) a_colours a_layouts a_gaps a_weights (fun j => a_shifts (2 * j)) (fun j => a_shifts (2 * j + 1)) a_visible a_enabled a_on a_values a_parents a_effects a_targets b_kids b_kidCount lf tp wd hg b_order b_stack a_pixels b_events a_notes)
    (h2 : ¬ (0 < a_weights c ∧ 0 < o) → wY_arranged_400 post J (nI p) (nI (1 - a)) x3 x4 o s (nI i) (nI c) (z0 + pd_sh x3 x4 (a_weights c)) g_many g_waiting f_noteCount f_over f_pressed f_focus g_acted a_there a_kinds (fun j => a_wishedPlaces (2 * j)) (fun j => a_wishedPlaces (2 * j + 1)) (fun j => a_wishedSizes (2 * j)) (fun j => a_wishedSizes (2 * j + 1)) a_colours a_layouts a_gaps a_weights (fun j => a_shifts (2 * j)) (fun j => a_shifts (2 * j + 1)) a_visible a_enabled a_on a_values a_parents a_effects a_targets b_kids b_kidCount lf tp wd hg b_order b_stack a_pixels b_events a_notes) :
    wY_arranged_355 post J (nI p) (nI (1 - a)) x3 x4 o s (nI i) (nI c) z0 g_many g_waiting f_noteCount f_over f_pressed f_focus g_acted a_there a_kinds (fun j => a_wishedPlaces (2 * j)) (fun j => a_wishedPlaces (2 * j + 1)) (fun j => a_wishedSizes (2 * j)) (fun j => a_wishedSizes (2 * j + 1)) a_colours a_layouts a_gaps a_weights (fun j => a_shifts (2 * j)) (fun j => a_shifts (2 * j + 1)) a_visible a_enabled a_on a_values a_parents a_effects a_targets b_kids b_kidCount lf tp wd hg b_order b_stack a_pixels b_events a_notes := by
  have vc : vp_in (nI c) 12 := vp_in_nI hc (by omega)
  have cc : (nI c).toNatClampNeg = c := pd_cl (by omega)
  have f : ∀ q, q = pd_sh x3 x4 (a_weights c) → wY_arranged_376 post J (nI p) (nI (1 - a)) x3 x4 o s (nI i) (nI c) q z0 g_many g_waiting f_noteCount f_over f_pressed f_focus g_acted a_there a_kinds (fun j => a_wishedPlaces (2 * j)) (fun j => a_wishedPlaces (2 * j + 1)) (fun j => a_wishedSizes (2 * j)) (fun j => a_wishedSizes (2 * j + 1)) a_colours a_layouts a_gaps a_weights (fun j => a_shifts (2 * j)) (fun j => a_shifts (2 * j + 1)) a_visible a_enabled a_on a_values a_parents a_effects a_targets b_kids b_kidCount lf tp wd hg b_order b_stack a_pixels b_events a_notes := by
    intro q eq
    subst eq
    refine nm_e ⟨vc, ?_⟩
    rw [cc]
    by_cases hw : a_weights c ≤ 0
    · exact br_t hw (h2 (fun z => absurd z.1 (Int32.not_lt.mpr hw)))
    · by_cases ho : o ≤ 0
      · exact br_f hw (br_t ho (h2 (fun z => absurd z.2 (Int32.not_lt.mpr ho))))
      · exact br_f hw (br_f ho (nm_e (nm_e (h1 ⟨Int32.not_le.mp hw, Int32.not_le.mp ho⟩))))
  by_cases b : x4 ≤ 0
  · exact br_t b (f 0 (by unfold pd_sh; rw [if_neg (Int32.not_lt.mpr b)]))
  · refine br_f b ⟨vc, fun z => b (by rw [z]; exact Int32.le_refl _), f _ (by unfold pd_sh; rw [cc, if_pos (Int32.not_le.mp b)])⟩
theorem py_arr245 {post : SY → Prop} {p a N : Nat} {x3 x4 : Int32} {G : Nat → pd_V} (hp : p < 12) (ha : a < 2) (hN : N ≤ 12) (hk : b_kidCount p = nI N) :
    ∀ (R : List Nat) (i n : Nat) (o s : Int32) (lf tp wd hg : Nat → Int32), pd_sg b_kids (12 * p + i) R → i + R.length = N → R.length < n → (∀ c, c ∈ R → c < 12 ∧ p ≠ c) → pd_YA G lf tp wd hg p →
    (∀ c, c ∈ R → a_visible c = 0 → ∀ b, (G c).1 b = (G p).1 b ∧ (G c).2.1 b = a_wishedSizes (2 * c + b)) →
    (∀ c, c ∈ R → ¬ a_visible c = 0 → (G c).1 (1 - a) = (G p).1 (1 - a) - a_shifts (2 * p + (1 - a)) ∧ (G c).2.1 (1 - a) = (G p).2.1 (1 - a)) →
    pd_PL a_wishedSizes a_weights a_visible a x3 x4 (a_gaps p) (fun c => ((G c).1 a, (G c).2.1 a)) R o s →
    (∀ lf' tp' wd' hg', (∀ c, pd_YA G lf tp wd hg c → pd_YA G lf' tp' wd' hg' c) → (∀ c, c ∈ R → pd_YA G lf' tp' wd' hg' c) → post (g_many, g_waiting, f_noteCount, f_over, f_pressed, f_focus, g_acted, a_there, a_kinds, (fun j => a_wishedPlaces (2 * j)), (fun j => a_wishedPlaces (2 * j + 1)), (fun j => a_wishedSizes (2 * j)), (fun j => a_wishedSizes (2 * j + 1)), a_colours, a_layouts, a_gaps, a_weights, (fun j => a_shifts (2 * j)), (fun j => a_shifts (2 * j + 1)), a_visible, a_enabled, a_on, a_values, a_parents, a_effects, a_targets, b_kids, b_kidCount, lf', tp', wd', hg', b_order, b_stack, a_pixels, b_events, a_notes)) →
    wY_arranged_245 post (nI p) (nI (1 - a)) x3 x4 g_many g_waiting f_noteCount f_over f_pressed f_focus g_acted n o s (nI (12 * p + i)) a_there a_kinds (fun j => a_wishedPlaces (2 * j)) (fun j => a_wishedPlaces (2 * j + 1)) (fun j => a_wishedSizes (2 * j)) (fun j => a_wishedSizes (2 * j + 1)) a_colours a_layouts a_gaps a_weights (fun j => a_shifts (2 * j)) (fun j => a_shifts (2 * j + 1)) a_visible a_enabled a_on a_values a_parents a_effects a_targets b_kids b_kidCount lf tp wd hg b_order b_stack a_pixels b_events a_notes := by
  have vp : vp_in (nI p) 12 := vp_in_nI hp (by omega)
  have cp : (nI p).toNatClampNeg = p := pd_cl (by omega)
  intro R
  induction R with
  | nil =>
    intro i n o s lf tp wd hg _ hi hn _ _ _ _ _ h
    obtain ⟨n, rfl⟩ : ∃ m, n = m + 1 := ⟨n - 1, by omega⟩
    have hi' : i = N := hi
    rw [wY_arranged_245]
    dsimp only
    rw [cp, hk, pd_12b]
    exact ⟨vp, br_t (by rw [hi']; exact Int32.le_refl _) (h lf tp wd hg (fun _ z => z) (fun c hc => by cases hc))⟩
  | cons c R ih =>
    intro i n o s lf tp wd hg hs hi hn hc hA hH hV hPL h
    obtain ⟨n, rfl⟩ : ∃ m, n = m + 1 := ⟨n - 1, by omega⟩
    rw [List.length_cons] at hi hn
    obtain ⟨hc12, hne⟩ := hc c (List.mem_cons_self ..)
    have vc : vp_in (nI c) 12 := vp_in_nI hc12 (by omega)
    have cc : (nI c).toNatClampNeg = c := pd_cl (by omega)
    have fin : ∀ o1 s1, pd_PL a_wishedSizes a_weights a_visible a x3 x4 (a_gaps p) (fun c => ((G c).1 a, (G c).2.1 a)) R o1 s1 →
        wY_arranged_245 post (nI p) (nI (1 - a)) x3 x4 g_many g_waiting f_noteCount f_over f_pressed f_focus g_acted n o1 s1 (nI (12 * p + i + 1)) a_there a_kinds (fun j => a_wishedPlaces (2 * j)) (fun j => a_wishedPlaces (2 * j + 1)) (fun j => a_wishedSizes (2 * j)) (fun j => a_wishedSizes (2 * j + 1)) a_colours a_layouts a_gaps a_weights (fun j => a_shifts (2 * j)) (fun j => a_shifts (2 * j + 1)) a_visible a_enabled a_on a_values a_parents a_effects a_targets b_kids b_kidCount (upd lf c ((G c).1 0)) (upd tp c ((G c).1 1)) (upd wd c ((G c).2.1 0)) (upd hg c ((G c).2.1 1)) b_order b_stack a_pixels b_events a_notes := by
      intro o1 s1 hPL1
      refine ih (i + 1) n o1 s1 _ _ _ _ hs.2 (by omega) (by omega) (fun d hd => hc d (List.mem_cons_of_mem _ hd)) (pd_YAm G lf tp wd hg c p hA) (fun d hd => hH d (List.mem_cons_of_mem _ hd)) (fun d hd => hV d (List.mem_cons_of_mem _ hd)) hPL1 (fun lf' tp' wd' hg2 m k => ?_)
      refine h lf' tp' wd' hg2 (fun d hd => m d (pd_YAm G lf tp wd hg c d hd)) (fun d hd => ?_)
      cases List.mem_cons.mp hd with
      | inl e => subst e; exact m d (pd_YAu G lf tp wd hg d)
      | inr e => exact k d e
    rw [wY_arranged_245]
    dsimp only
    rw [cp, hk, pd_12b]
    refine ⟨vp, br_f (nI_ge (by omega) (by omega)) ⟨vp_in_nI (by omega) (by omega), nm_r (e' := nI c) (by rw [pd_cl (by omega)]; exact hs.1) ?_⟩⟩
    refine ⟨vp, vc, nm_r (e' := upd lf c ((G p).1 0)) (by rw [cc, hA.1]) ⟨vp, vc, nm_r (e' := upd tp c ((G p).1 1)) (by rw [cc, hA.2.1]) ⟨vc, vc, nm_r (e' := upd wd c (a_wishedSizes (2 * c + 0))) (by rw [cc]; rfl) ⟨vc, vc, nm_r (e' := upd hg c (a_wishedSizes (2 * c + 1))) (by rw [cc]) ⟨vc, ?_⟩⟩⟩⟩⟩
    rw [cc]
    by_cases hv : a_visible c = 0
    · have e0 := hH c (List.mem_cons_self ..) hv 0
      have e1 := hH c (List.mem_cons_self ..) hv 1
      refine br_t hv (nm_r (nI_1 _) ?_)
      have k := fin o s (hPL.1 hv)
      rw [e0.1, e0.2, e1.1, e1.2] at k
      exact k
    · obtain ⟨e3, e4⟩ := hV c (List.mem_cons_self ..) hv
      refine br_f hv ?_
      have f355 : ∀ z0, z0 = a_wishedSizes (2 * c + a) → wY_arranged_355 post (wY_arranged_245 post (nI p) (nI (1 - a)) x3 x4 g_many g_waiting f_noteCount f_over f_pressed f_focus g_acted n) (nI p) (nI (1 - a)) x3 x4 o s (nI (12 * p + i)) (nI c) z0 g_many g_waiting f_noteCount f_over f_pressed f_focus g_acted a_there a_kinds (fun j => a_wishedPlaces (2 * j)) (fun j => a_wishedPlaces (2 * j + 1)) (fun j => a_wishedSizes (2 * j)) (fun j => a_wishedSizes (2 * j + 1)) a_colours a_layouts a_gaps a_weights (fun j => a_shifts (2 * j)) (fun j => a_shifts (2 * j + 1)) a_visible a_enabled a_on a_values a_parents a_effects a_targets b_kids b_kidCount (upd lf c ((G p).1 0)) (upd tp c ((G p).1 1)) (upd wd c (a_wishedSizes (2 * c + 0))) (upd hg c (a_wishedSizes (2 * c + 1))) b_order b_stack a_pixels b_events a_notes := by
        intro z0 ez
        subst ez
        refine py_arr355 hc12 (fun y => ?_) (fun y => ?_)
        · obtain ⟨g1, g2⟩ := hPL.2.1 hv y
          exact py_arr400 (G := G) hp hc12 ha hA hne (congrArg Prod.fst g1) (congrArg Prod.snd g1) e3 e4 (fin _ _ g2)
        · obtain ⟨g1, g2⟩ := hPL.2.2 hv y
          exact py_arr400 (G := G) hp hc12 ha hA hne (congrArg Prod.fst g1) (congrArg Prod.snd g1) e3 e4 (fin _ _ g2)
      have hz : a = 0 ∨ a = 1 := by omega
      rcases hz with rfl | rfl
      · exact br_f (by decide) ⟨vc, f355 _ rfl⟩
      · exact br_t (by decide) ⟨vc, f355 _ rfl⟩
end PDK
end
section
section PDL
variable {f_stacked f_treeSize f_over f_pressed f_focus f_waiting f_noteCount : Int32} {a_there a_parents a_kinds a_colours a_weights a_gaps a_layouts a_values a_effects a_targets a_visible a_enabled a_on a_wishedPlaces a_wishedSizes a_shifts a_stack a_tree a_seen a_able a_places a_sizes a_clipStarts a_clipEnds a_eventKinds a_eventXs a_eventYs a_notes a_pixels : Nat → Int32}
variable {g_many g_waiting g_acted : Int32} {b_kids b_kidCount b_left b_top b_width b_height b_order b_stack b_events : Nat → Int32}
def pd_ys (we vi : Nat → Int32) (lo sw : Int32) : List Nat → Int32 → Int32
  | [], m => m
  | c :: R, m => pd_ys we vi lo sw R (if vi c = 0 then m else m - pd_sh lo sw (we c))
theorem pd_ys_x {we vi : Nat → Int32} {lo sw l : Int32} : ∀ (R : List Nat) (m s : Int32), m = l - s → pd_ys we vi lo sw R m = l - pd_ss we vi lo sw R s
  | [], m, s, h => h
  | c :: R, m, s, h => by
    simp only [pd_ys, pd_ss]
    by_cases hv : vi c = 0
    · rw [if_pos hv, if_pos hv]; exact pd_ys_x R m s h
    · rw [if_neg hv, if_neg hv]
      refine pd_ys_x R _ _ ?_
      rw [h]
      generalize pd_sh lo sw (we c) = z
      grind
theorem py_arr140 {post : SY → Prop} {p a N : Nat} {x3 x4 : Int32} {G : Nat → pd_V} (hp : p < 12) (ha : a < 2) (hN : N ≤ 12) (hk : b_kidCount p = nI N) (hA : pd_YA G b_left b_top b_width b_height p) :
    ∀ (R : List Nat) (i n : Nat) (m : Int32), pd_sg b_kids (12 * p + i) R → i + R.length = N → R.length < n → (∀ c, c ∈ R → c < 12) →
    (∃ n245, wY_arranged_245 post (nI p) (nI (1 - a)) x3 x4 g_many g_waiting f_noteCount f_over f_pressed f_focus g_acted n245 (pd_ys a_weights a_visible x3 x4 R m) ((G p).1 a - a_shifts (2 * p + a)) (nI (12 * p)) a_there a_kinds (fun j => a_wishedPlaces (2 * j)) (fun j => a_wishedPlaces (2 * j + 1)) (fun j => a_wishedSizes (2 * j)) (fun j => a_wishedSizes (2 * j + 1)) a_colours a_layouts a_gaps a_weights (fun j => a_shifts (2 * j)) (fun j => a_shifts (2 * j + 1)) a_visible a_enabled a_on a_values a_parents a_effects a_targets b_kids b_kidCount b_left b_top b_width b_height b_order b_stack a_pixels b_events a_notes) →
    wY_arranged_140 post (nI p) (nI (1 - a)) x3 x4 g_many g_waiting f_noteCount f_over f_pressed f_focus g_acted a_there a_kinds (fun j => a_wishedPlaces (2 * j)) (fun j => a_wishedPlaces (2 * j + 1)) (fun j => a_wishedSizes (2 * j)) (fun j => a_wishedSizes (2 * j + 1)) a_colours a_layouts a_gaps a_weights (fun j => a_shifts (2 * j)) (fun j => a_shifts (2 * j + 1)) a_visible a_enabled a_on a_values a_parents a_effects a_targets b_kids b_kidCount b_left b_top b_width b_height b_order b_stack a_pixels b_events a_notes n m (nI (12 * p + i)) := by
  have vp : vp_in (nI p) 12 := vp_in_nI hp (by omega)
  have cp : (nI p).toNatClampNeg = p := pd_cl (by omega)
  intro R
  induction R with
  | nil =>
    intro i n m _ hi hn _ h
    obtain ⟨n, rfl⟩ : ∃ k, n = k + 1 := ⟨n - 1, by omega⟩
    have hi' : i = N := hi
    rw [wY_arranged_140]
    dsimp only
    rw [cp, hk, pd_12b]
    refine ⟨vp, br_t (by rw [hi']; exact Int32.le_refl _) ?_⟩
    have hz : a = 0 ∨ a = 1 := by omega
    rcases hz with rfl | rfl
    · exact br_f (by decide) ⟨vp, vp, nm_r (e' := (G p).1 0 - a_shifts (2 * p + 0)) (by rw [hA.1]; rfl) (nm_r (pd_12 p) h)⟩
    · exact br_t (by decide) ⟨vp, vp, nm_r (e' := (G p).1 1 - a_shifts (2 * p + 1)) (by rw [hA.2.1]) (nm_r (pd_12 p) h)⟩
  | cons c R ih =>
    intro i n m hs hi hn hc h
    obtain ⟨n, rfl⟩ : ∃ k, n = k + 1 := ⟨n - 1, by omega⟩
    rw [List.length_cons] at hi hn
    have hc12 : c < 12 := hc c (List.mem_cons_self ..)
    have vc : vp_in (nI c) 12 := vp_in_nI hc12 (by omega)
    have cc : (nI c).toNatClampNeg = c := pd_cl (by omega)
    have vi : vp_in (nI (12 * p + i)) 144 := vp_in_nI (by omega) (by omega)
    have ek : b_kids (nI (12 * p + i)).toNatClampNeg = nI c := by rw [pd_cl (by omega)]; exact hs.1
    have hcR : ∀ d, d ∈ R → d < 12 := fun d hd => hc d (List.mem_cons_of_mem _ hd)
    rw [wY_arranged_140]
    dsimp only
    rw [cp, hk, pd_12b, ek, cc]
    refine ⟨vp, br_f (nI_ge (by omega) (by omega)) ⟨vi, vc, ?_⟩⟩
    by_cases hv : a_visible c = 0
    · simp only [pd_ys, if_pos hv] at h
      exact br_t hv (nm_r (nI_1 _) (ih (i + 1) n m hs.2 (by omega) (by omega) hcR h))
    · simp only [pd_ys, if_neg hv] at h
      refine br_f hv ?_
      by_cases b : x4 ≤ 0
      · have e0 : pd_sh x3 x4 (a_weights c) = 0 := by unfold pd_sh; rw [if_neg (Int32.not_lt.mpr b)]
        rw [e0, Int32.sub_zero] at h
        exact br_t b (nm_r (nI_1 _) (ih (i + 1) n m hs.2 (by omega) (by omega) hcR h))
      · have e0 : pd_sh x3 x4 (a_weights c) = x3 * a_weights c / x4 := by unfold pd_sh; rw [if_pos (Int32.not_le.mp b)]
        rw [e0] at h
        exact br_f b ⟨vi, vc, fun z => b (by rw [z]; exact Int32.le_refl _), nm_e (nm_r (nI_1 _) (ih (i + 1) n _ hs.2 (by omega) (by omega) hcR h))⟩
theorem py_arr36 {post : SY → Prop} {p a N : Nat} (hp : p < 12) (ha : a < 2) (hN : N ≤ 12) (hk : b_kidCount p = nI N) :
    ∀ (R : List Nat) (i n : Nat) (r s : Int32), pd_sg b_kids (12 * p + i) R → i + R.length = N → R.length < n → (∀ c, c ∈ R → c < 12) →
    (((pd_yr a_wishedSizes a_visible a (a_gaps p) R r) < 0 → wY_arranged_129 post (nI p) (nI (1 - a)) (pd_sw a_weights a_visible R s) g_many g_waiting f_noteCount f_over f_pressed f_focus g_acted a_there a_kinds (fun j => a_wishedPlaces (2 * j)) (fun j => a_wishedPlaces (2 * j + 1)) (fun j => a_wishedSizes (2 * j)) (fun j => a_wishedSizes (2 * j + 1)) a_colours a_layouts a_gaps a_weights (fun j => a_shifts (2 * j)) (fun j => a_shifts (2 * j + 1)) a_visible a_enabled a_on a_values a_parents a_effects a_targets b_kids b_kidCount b_left b_top b_width b_height b_order b_stack a_pixels b_events a_notes) ∧
     (¬ (pd_yr a_wishedSizes a_visible a (a_gaps p) R r) < 0 → (((pd_sw a_weights a_visible R s) = 0 → wY_arranged_129 post (nI p) (nI (1 - a)) (pd_sw a_weights a_visible R s) g_many g_waiting f_noteCount f_over f_pressed f_focus g_acted a_there a_kinds (fun j => a_wishedPlaces (2 * j)) (fun j => a_wishedPlaces (2 * j + 1)) (fun j => a_wishedSizes (2 * j)) (fun j => a_wishedSizes (2 * j + 1)) a_colours a_layouts a_gaps a_weights (fun j => a_shifts (2 * j)) (fun j => a_shifts (2 * j + 1)) a_visible a_enabled a_on a_values a_parents a_effects a_targets b_kids b_kidCount b_left b_top b_width b_height b_order b_stack a_pixels b_events a_notes) ∧
       (¬ (pd_sw a_weights a_visible R s) = 0 → ∀ x : Int32, x = 12 * nI p → ∃ n140 : Nat, wY_arranged_140 post (nI p) (nI (1 - a)) (pd_yr a_wishedSizes a_visible a (a_gaps p) R r) (pd_sw a_weights a_visible R s) g_many g_waiting f_noteCount f_over f_pressed f_focus g_acted a_there a_kinds (fun j => a_wishedPlaces (2 * j)) (fun j => a_wishedPlaces (2 * j + 1)) (fun j => a_wishedSizes (2 * j)) (fun j => a_wishedSizes (2 * j + 1)) a_colours a_layouts a_gaps a_weights (fun j => a_shifts (2 * j)) (fun j => a_shifts (2 * j + 1)) a_visible a_enabled a_on a_values a_parents a_effects a_targets b_kids b_kidCount b_left b_top b_width b_height b_order b_stack a_pixels b_events a_notes n140 (pd_yr a_wishedSizes a_visible a (a_gaps p) R r) x)))) →
    wY_arranged_36 post (nI p) (nI (1 - a)) g_many g_waiting f_noteCount f_over f_pressed f_focus g_acted a_there a_kinds (fun j => a_wishedPlaces (2 * j)) (fun j => a_wishedPlaces (2 * j + 1)) (fun j => a_wishedSizes (2 * j)) (fun j => a_wishedSizes (2 * j + 1)) a_colours a_layouts a_gaps a_weights (fun j => a_shifts (2 * j)) (fun j => a_shifts (2 * j + 1)) a_visible a_enabled a_on a_values a_parents a_effects a_targets b_kids b_kidCount b_left b_top b_width b_height b_order b_stack a_pixels b_events a_notes n r s (nI (12 * p + i)) := by
  have vp : vp_in (nI p) 12 := vp_in_nI hp (by omega)
  have cp : (nI p).toNatClampNeg = p := pd_cl (by omega)
  intro R
  induction R with
  | nil =>
    intro i n r s _ hi hn _ h
    obtain ⟨n, rfl⟩ : ∃ k, n = k + 1 := ⟨n - 1, by omega⟩
    have hi' : i = N := hi
    rw [wY_arranged_36]
    dsimp only
    rw [cp, hk, pd_12b]
    exact ⟨vp, br_t (by rw [hi']; exact Int32.le_refl _) h⟩
  | cons c R ih =>
    intro i n r s hs hi hn hc h
    obtain ⟨n, rfl⟩ : ∃ k, n = k + 1 := ⟨n - 1, by omega⟩
    rw [List.length_cons] at hi hn
    have hc12 : c < 12 := hc c (List.mem_cons_self ..)
    have vc : vp_in (nI c) 12 := vp_in_nI hc12 (by omega)
    have cc : (nI c).toNatClampNeg = c := pd_cl (by omega)
    have vi : vp_in (nI (12 * p + i)) 144 := vp_in_nI (by omega) (by omega)
    have hcR : ∀ d, d ∈ R → d < 12 := fun d hd => hc d (List.mem_cons_of_mem _ hd)
    rw [wY_arranged_36]
    dsimp only
    rw [cp, hk, pd_12b]
    refine ⟨vp, br_f (nI_ge (by omega) (by omega)) ⟨vi, nm_r (e' := nI c) (by rw [pd_cl (by omega)]; exact hs.1) ⟨vc, ?_⟩⟩⟩
    rw [cc]
    by_cases hv : a_visible c = 0
    · simp only [pd_yr, pd_sw, if_pos hv] at h
      exact br_t hv (nm_r (nI_1 _) (ih (i + 1) n r s hs.2 (by omega) (by omega) hcR h))
    · simp only [pd_yr, pd_sw, if_neg hv] at h
      refine br_f hv ⟨vp, ?_⟩
      have f99 : ∀ z, z = a_wishedSizes (2 * c + a) → wY_arranged_99 post (wY_arranged_36 post (nI p) (nI (1 - a)) g_many g_waiting f_noteCount f_over f_pressed f_focus g_acted a_there a_kinds (fun j => a_wishedPlaces (2 * j)) (fun j => a_wishedPlaces (2 * j + 1)) (fun j => a_wishedSizes (2 * j)) (fun j => a_wishedSizes (2 * j + 1)) a_colours a_layouts a_gaps a_weights (fun j => a_shifts (2 * j)) (fun j => a_shifts (2 * j + 1)) a_visible a_enabled a_on a_values a_parents a_effects a_targets b_kids b_kidCount b_left b_top b_width b_height b_order b_stack a_pixels b_events a_notes n) (nI p) (nI (1 - a)) s (nI (12 * p + i)) (nI c) z (a_gaps p) r g_many g_waiting f_noteCount f_over f_pressed f_focus g_acted a_there a_kinds (fun j => a_wishedPlaces (2 * j)) (fun j => a_wishedPlaces (2 * j + 1)) (fun j => a_wishedSizes (2 * j)) (fun j => a_wishedSizes (2 * j + 1)) a_colours a_layouts a_gaps a_weights (fun j => a_shifts (2 * j)) (fun j => a_shifts (2 * j + 1)) a_visible a_enabled a_on a_values a_parents a_effects a_targets b_kids b_kidCount b_left b_top b_width b_height b_order b_stack a_pixels b_events a_notes := by
        intro z ez
        subst ez
        exact nm_e ⟨vc, nm_r (e' := s + a_weights c) (by rw [cc]) (nm_r (nI_1 _) (ih (i + 1) n _ _ hs.2 (by omega) (by omega) hcR h))⟩
      have hz : a = 0 ∨ a = 1 := by omega
      rcases hz with rfl | rfl
      · exact br_f (by decide) ⟨vc, f99 _ rfl⟩
      · exact br_t (by decide) ⟨vc, f99 _ rfl⟩
theorem py_arr {post : SY → Prop} {p a : Nat} {L : List Nat} {rk : Nat → Nat} {G : Nat → pd_V} (H : pd_BI a_there a_parents L rk) (hK : pd_KD a_parents b_kidCount b_kids L) (hw : ∀ c, c < 12 → ∃ k, k ≤ 3 ∧ a_weights c = nI k)
    (hG : pd_LE a_parents a_wishedPlaces a_wishedSizes a_shifts a_visible a_enabled a_layouts a_gaps a_weights L G) (hp : p = 0 ∨ p ∈ L) (ha : a < 2) (hl : a_layouts p = nI (a + 1)) (hA : pd_YA G b_left b_top b_width b_height p)
    (h : ∀ lf tp wd hg, (∀ c, pd_YA G b_left b_top b_width b_height c → pd_YA G lf tp wd hg c) → (∀ c, c ∈ pd_kd a_parents L p → pd_YA G lf tp wd hg c) → post (g_many, g_waiting, f_noteCount, f_over, f_pressed, f_focus, g_acted, a_there, a_kinds, (fun j => a_wishedPlaces (2 * j)), (fun j => a_wishedPlaces (2 * j + 1)), (fun j => a_wishedSizes (2 * j)), (fun j => a_wishedSizes (2 * j + 1)), a_colours, a_layouts, a_gaps, a_weights, (fun j => a_shifts (2 * j)), (fun j => a_shifts (2 * j + 1)), a_visible, a_enabled, a_on, a_values, a_parents, a_effects, a_targets, b_kids, b_kidCount, lf, tp, wd, hg, b_order, b_stack, a_pixels, b_events, a_notes)) :
    wpY_arranged post (g_many, g_waiting, f_noteCount, f_over, f_pressed, f_focus, g_acted, a_there, a_kinds, (fun j => a_wishedPlaces (2 * j)), (fun j => a_wishedPlaces (2 * j + 1)), (fun j => a_wishedSizes (2 * j)), (fun j => a_wishedSizes (2 * j + 1)), a_colours, a_layouts, a_gaps, a_weights, (fun j => a_shifts (2 * j)), (fun j => a_shifts (2 * j + 1)), a_visible, a_enabled, a_on, a_values, a_parents, a_effects, a_targets, b_kids, b_kidCount, b_left, b_top, b_width, b_height, b_order, b_stack, a_pixels, b_events, a_notes) (nI p) (nI (1 - a)) := by
  have hp12 := pd_12lt H.2.1 hp
  have vp : vp_in (nI p) 12 := vp_in_nI hp12 (by omega)
  have cp : (nI p).toNatClampNeg = p := pd_cl (by omega)
  have hL := pd_len11 H.1 H.2.1
  have hKl : (pd_kd a_parents L p).length ≤ 11 := Nat.le_trans (List.length_filter_le _ _) hL
  obtain ⟨hk, hs⟩ := hK p hp
  have hc : ∀ c, c ∈ pd_kd a_parents L p → c < 12 := fun c hc => (H.2.1 c (pd_mkd.mp hc).1).2
  have hc' : ∀ c, c ∈ pd_kd a_parents L p → c < 12 ∧ p ≠ c := fun c hc1 => ⟨hc c hc1, fun e => by
    obtain ⟨hcL, hcp⟩ := pd_mkd.mp hc1
    obtain ⟨q, hq, eq, hr⟩ := H.2.2.2.2 c hcL
    have hq12 := pd_12lt H.2.1 hq
    have : q = p := pd_im (eq.symm.trans hcp) (by omega) (by omega)
    rw [this, e] at hr
    omega⟩
  have hl0 : ¬ a_layouts p = 0 := by rw [hl]; exact nI_ne0 (by omega) (by omega)
  have hla : ¬ a_layouts p = nI ((1 - a) + 1) := by rw [hl]; exact fun z => by have := pd_im z (by omega) (by omega); omega
  have PL := pd_LEp H hG hp hl0 hl
  obtain ⟨m, em, _, hm2, hm3⟩ := pd_swN (vi := a_visible) hw (pd_kd a_parents L p) 0 hc
  rw [nI_0] at em
  have m31 : m < 2 ^ 31 := by omega
  -- the last loop, for each x3 and start
  have last : ∀ x3 o, pd_PL a_wishedSizes a_weights a_visible a x3 (pd_sw a_weights a_visible (pd_kd a_parents L p) 0) (a_gaps p) (fun c => ((G c).1 a, (G c).2.1 a)) (pd_kd a_parents L p) o ((G p).1 a - a_shifts (2 * p + a)) →
      ∃ n245, wY_arranged_245 post (nI p) (nI (1 - a)) x3 (pd_sw a_weights a_visible (pd_kd a_parents L p) 0) g_many g_waiting f_noteCount f_over f_pressed f_focus g_acted n245 o ((G p).1 a - a_shifts (2 * p + a)) (nI (12 * p)) a_there a_kinds (fun j => a_wishedPlaces (2 * j)) (fun j => a_wishedPlaces (2 * j + 1)) (fun j => a_wishedSizes (2 * j)) (fun j => a_wishedSizes (2 * j + 1)) a_colours a_layouts a_gaps a_weights (fun j => a_shifts (2 * j)) (fun j => a_shifts (2 * j + 1)) a_visible a_enabled a_on a_values a_parents a_effects a_targets b_kids b_kidCount b_left b_top b_width b_height b_order b_stack a_pixels b_events a_notes := by
    intro x3 o hPL
    exact ⟨(pd_kd a_parents L p).length + 1, py_arr245 (G := G) hp12 ha (N := (pd_kd a_parents L p).length) (by omega) hk (pd_kd a_parents L p) 0 _ o _ b_left b_top b_width b_height hs (by omega) (by omega) hc' hA
      (fun c hc hv b => pd_Ghid hG hp hc hl0 hv b) (fun c hc hv => pd_Gacr hG hp hc hl0 hv hla) hPL h⟩
  have mid : ∀ x3 y, pd_PL a_wishedSizes a_weights a_visible a x3 (pd_sw a_weights a_visible (pd_kd a_parents L p) 0) (a_gaps p) (fun c => ((G c).1 a, (G c).2.1 a)) (pd_kd a_parents L p) (pd_ys a_weights a_visible x3 (pd_sw a_weights a_visible (pd_kd a_parents L p) 0) (pd_kd a_parents L p) y) ((G p).1 a - a_shifts (2 * p + a)) →
      ∃ n140, wY_arranged_140 post (nI p) (nI (1 - a)) x3 (pd_sw a_weights a_visible (pd_kd a_parents L p) 0) g_many g_waiting f_noteCount f_over f_pressed f_focus g_acted a_there a_kinds (fun j => a_wishedPlaces (2 * j)) (fun j => a_wishedPlaces (2 * j + 1)) (fun j => a_wishedSizes (2 * j)) (fun j => a_wishedSizes (2 * j + 1)) a_colours a_layouts a_gaps a_weights (fun j => a_shifts (2 * j)) (fun j => a_shifts (2 * j + 1)) a_visible a_enabled a_on a_values a_parents a_effects a_targets b_kids b_kidCount b_left b_top b_width b_height b_order b_stack a_pixels b_events a_notes n140 y (nI (12 * p)) := by
    intro x3 y hPL
    exact ⟨(pd_kd a_parents L p).length + 1, py_arr140 (G := G) hp12 ha (N := (pd_kd a_parents L p).length) (by omega) hk hA (pd_kd a_parents L p) 0 _ y hs (by omega) (by omega) hc (last x3 _ hPL)⟩
  have f19 : ∀ z, z = (G p).2.1 a → wY_arranged_19 post (nI p) (nI (1 - a)) z g_many g_waiting f_noteCount f_over f_pressed f_focus g_acted a_there a_kinds (fun j => a_wishedPlaces (2 * j)) (fun j => a_wishedPlaces (2 * j + 1)) (fun j => a_wishedSizes (2 * j)) (fun j => a_wishedSizes (2 * j + 1)) a_colours a_layouts a_gaps a_weights (fun j => a_shifts (2 * j)) (fun j => a_shifts (2 * j + 1)) a_visible a_enabled a_on a_values a_parents a_effects a_targets b_kids b_kidCount b_left b_top b_width b_height b_order b_stack a_pixels b_events a_notes := by
    intro z ez
    subst ez
    refine ⟨vp, nm_r (e' := (G p).2.1 a + a_gaps p) (by rw [cp]) (nm_r (pd_12 p) ⟨(pd_kd a_parents L p).length + 1, ?_⟩)⟩
    refine py_arr36 hp12 ha (N := (pd_kd a_parents L p).length) (by omega) hk (pd_kd a_parents L p) 0 _ _ 0 hs (by omega) (by omega) hc ?_
    by_cases hm0 : m = 0
    · have es : pd_sw a_weights a_visible (pd_kd a_parents L p) 0 = 0 := by rw [em, hm0]; exact nI_0
      have f129 : wY_arranged_129 post (nI p) (nI (1 - a)) (pd_sw a_weights a_visible (pd_kd a_parents L p) 0) g_many g_waiting f_noteCount f_over f_pressed f_focus g_acted a_there a_kinds (fun j => a_wishedPlaces (2 * j)) (fun j => a_wishedPlaces (2 * j + 1)) (fun j => a_wishedSizes (2 * j)) (fun j => a_wishedSizes (2 * j + 1)) a_colours a_layouts a_gaps a_weights (fun j => a_shifts (2 * j)) (fun j => a_shifts (2 * j + 1)) a_visible a_enabled a_on a_values a_parents a_effects a_targets b_kids b_kidCount b_left b_top b_width b_height b_order b_stack a_pixels b_events a_notes :=
        nm_r (pd_12 p) (mid 0 0 (pd_PLi es _ _ _ _ (hm3 hm0) PL))
      exact br_c (fun _ => f129) (fun _ => br_t es f129)
    · have es : ¬ pd_sw a_weights a_visible (pd_kd a_parents L p) 0 = 0 := by rw [em]; exact nI_ne0 (by omega) m31
      have hn : 0 < pd_sn a_visible (pd_kd a_parents L p) 0 := by
        refine Nat.pos_of_ne_zero fun e => es ?_
        exact pd_sn0 _ 0 0 e
      have ey := pd_yr_l (ws := a_wishedSizes) (a := a) (gp := a_gaps p) (sz := (G p).2.1 a) hn
      rw [ey]
      have step : ∀ x3, x3 = pd_lo a_wishedSizes a_visible (a_gaps p) a (pd_kd a_parents L p) ((G p).2.1 a) → ∃ n140, wY_arranged_140 post (nI p) (nI (1 - a)) x3 (pd_sw a_weights a_visible (pd_kd a_parents L p) 0) g_many g_waiting f_noteCount f_over f_pressed f_focus g_acted a_there a_kinds (fun j => a_wishedPlaces (2 * j)) (fun j => a_wishedPlaces (2 * j + 1)) (fun j => a_wishedSizes (2 * j)) (fun j => a_wishedSizes (2 * j + 1)) a_colours a_layouts a_gaps a_weights (fun j => a_shifts (2 * j)) (fun j => a_shifts (2 * j + 1)) a_visible a_enabled a_on a_values a_parents a_effects a_targets b_kids b_kidCount b_left b_top b_width b_height b_order b_stack a_pixels b_events a_notes n140 x3 (nI (12 * p)) := by
        intro x3 e3
        refine mid x3 x3 ?_
        rw [pd_ys_x (l := x3) (pd_kd a_parents L p) x3 0 (by rw [Int32.sub_zero]), e3]
        exact PL
      by_cases hr : pd_l1 (a_gaps p) (pd_sn a_visible (pd_kd a_parents L p) 0) (pd_sr a_wishedSizes a_visible a (pd_kd a_parents L p) ((G p).2.1 a)) < 0
      · refine br_t hr (nm_r (pd_12 p) (step 0 ?_))
        unfold pd_lo pd_po
        rw [if_neg (fun z => Int32.lt_irrefl (Int32.lt_of_lt_of_le z (Int32.le_of_lt hr)))]
      · refine br_f hr (br_f es (nm_r (pd_12 p) (step _ ?_)))
        unfold pd_lo pd_po
        by_cases h0 : 0 < pd_l1 (a_gaps p) (pd_sn a_visible (pd_kd a_parents L p) 0) (pd_sr a_wishedSizes a_visible a (pd_kd a_parents L p) ((G p).2.1 a))
        · rw [if_pos h0]
        · rw [if_neg h0]
          exact Int32.le_antisymm (Int32.not_lt.mp h0) (Int32.not_lt.mp hr)
  have hz : a = 0 ∨ a = 1 := by omega
  rcases hz with rfl | rfl
  · exact br_f (by decide) ⟨vp, f19 _ (by rw [cp]; exact hA.2.2.1)⟩
  · exact br_t (by decide) ⟨vp, f19 _ (by rw [cp]; exact hA.2.2.2)⟩
theorem py_rect84 {post : SY → Prop} {J : _} {w : Nat} {L T : List Nat} {rk : Nat → Nat} {G : Nat → pd_V} (H : pd_BI a_there a_parents L rk) (hK : pd_KD a_parents b_kidCount b_kids L) (hV : pd_VA a_wishedPlaces a_wishedSizes a_weights a_layouts a_targets a_shifts)
    (hG : pd_LE a_parents a_wishedPlaces a_wishedSizes a_shifts a_visible a_enabled a_layouts a_gaps a_weights L G) (hp : w = 0 ∨ w ∈ L) (hA : pd_YA G b_left b_top b_width b_height w) (hT : T.length ≤ 12)
    (h : ∀ st lf tp wd hg, pd_rs st (pd_kd a_parents L w ++ T) → (∀ c, pd_YA G b_left b_top b_width b_height c → pd_YA G lf tp wd hg c) → (∀ c, c ∈ pd_kd a_parents L w → pd_YA G lf tp wd hg c) →
      J (nI (pd_kd a_parents L w ++ T).length) g_many g_waiting f_noteCount f_over f_pressed f_focus g_acted a_there a_kinds (fun j => a_wishedPlaces (2 * j)) (fun j => a_wishedPlaces (2 * j + 1)) (fun j => a_wishedSizes (2 * j)) (fun j => a_wishedSizes (2 * j + 1)) a_colours a_layouts a_gaps a_weights (fun j => a_shifts (2 * j)) (fun j => a_shifts (2 * j + 1)) a_visible a_enabled a_on a_values a_parents a_effects a_targets b_kids b_kidCount lf tp wd hg b_order st a_pixels b_events a_notes) :
    ∀ (k n q : Nat) (x3 : Int32) (st : Nat → Int32), k ≤ (pd_kd a_parents L w).length → k < n → x3 = nI k + (-1) → q = ((pd_kd a_parents L w).drop k ++ T).length → pd_rs st ((pd_kd a_parents L w).drop k ++ T) →
      wY_rectangles_84 post J (nI w) g_many g_waiting f_noteCount f_over f_pressed f_focus g_acted n (nI q) x3 a_there a_kinds (fun j => a_wishedPlaces (2 * j)) (fun j => a_wishedPlaces (2 * j + 1)) (fun j => a_wishedSizes (2 * j)) (fun j => a_wishedSizes (2 * j + 1)) a_colours a_layouts a_gaps a_weights (fun j => a_shifts (2 * j)) (fun j => a_shifts (2 * j + 1)) a_visible a_enabled a_on a_values a_parents a_effects a_targets b_kids b_kidCount b_left b_top b_width b_height b_order st a_pixels b_events a_notes := by
  have hw12 := pd_12lt H.2.1 hp
  have vw : vp_in (nI w) 12 := vp_in_nI hw12 (by omega)
  have cw : (nI w).toNatClampNeg = w := pd_cl (by omega)
  have hL := pd_len11 H.1 H.2.1
  have hKl : (pd_kd a_parents L w).length ≤ 11 := Nat.le_trans (List.length_filter_le _ _) hL
  have hc : ∀ c, c ∈ pd_kd a_parents L w → c < 12 := fun c hc => (H.2.1 c (pd_mkd.mp hc).1).2
  obtain ⟨hk, hs⟩ := hK w hp
  intro k
  induction k with
  | zero =>
    intro n q x3 st _ hn ex eq hr
    obtain ⟨n, rfl⟩ : ∃ m, n = m + 1 := ⟨n - 1, by omega⟩
    subst ex eq
    rw [List.drop_zero] at hr ⊢
    rw [wY_rectangles_84]
    refine br_t (by decide) ⟨vw, ?_⟩
    rw [cw]
    obtain ⟨y, hy, ey⟩ := hV.2.2.1 w hw12
    by_cases e0 : y = 0
    · subst e0
      have el : a_layouts w = 0 := ey
      refine br_t el (nm_r (pd_12 w) ⟨(pd_kd a_parents L w).length + 1, ?_⟩)
      exact py_free5 (G := G) hw12 (N := (pd_kd a_parents L w).length) (by omega) hk (pd_kd a_parents L w) 0 _ b_left b_top b_width b_height hs (by omega) (by omega) hc hA (fun c hc a => pd_Gfree hG hp hc el a) (fun lf tp wd hg m1 m2 => h st lf tp wd hg hr m1 m2)
    · have el : ¬ a_layouts w = 0 := by rw [ey]; exact nI_ne0 (by omega) (by omega)
      refine br_f el ⟨vw, ?_⟩
      by_cases e1 : y = 1
      · subst e1
        exact br_t ey (py_arr (G := G) (a := 0) H hK hV.2.1 hG hp (by omega) ey hA (fun lf tp wd hg m1 m2 => h st lf tp wd hg hr m1 m2))
      · have e2 : y = 2 := by omega
        subst e2
        exact br_f (by rw [ey]; decide) (py_arr (G := G) (a := 1) H hK hV.2.1 hG hp (by omega) ey hA (fun lf tp wd hg m1 m2 => h st lf tp wd hg hr m1 m2))
  | succ k ih =>
    intro n q x3 st hk' hn ex eq hr
    obtain ⟨n, rfl⟩ : ∃ m, n = m + 1 := ⟨n - 1, by omega⟩
    rw [pd_m1] at ex
    subst ex
    have hlen : q = (pd_kd a_parents L w).length - (k + 1) + T.length := by rw [eq, List.length_append, List.length_drop]
    rw [wY_rectangles_84]
    dsimp only
    rw [pd_12b]
    have e1 : b_kids (nI (12 * w + k)).toNatClampNeg = nI (pd_kd a_parents L w)[k] := by
      rw [pd_cl (by omega)]
      exact pd_sg_g _ _ k (by omega) hs
    rw [e1, pd_cl (n := q) (by omega)]
    refine br_f (nI_pos (by omega)) (nm_r (nI_1 q) ⟨vp_in_nI (by omega) (by omega), vp_in_nI (by omega) (by omega), nm_e (nm_e ?_)⟩)
    have ed : (pd_kd a_parents L w).drop k = (pd_kd a_parents L w)[k] :: (pd_kd a_parents L w).drop (k + 1) := List.drop_eq_getElem_cons (by omega)
    refine ih n (q + 1) _ _ (by omega) (by omega) rfl ?_ ?_
    · rw [ed, List.cons_append, List.length_cons, ← eq]
    · rw [ed, List.cons_append, eq]
      exact pd_rs_u hr
end PDL
end
section
section PDM
variable {f_stacked f_treeSize f_over f_pressed f_focus f_waiting f_noteCount : Int32} {a_there a_parents a_kinds a_colours a_weights a_gaps a_layouts a_values a_effects a_targets a_visible a_enabled a_on a_wishedPlaces a_wishedSizes a_shifts a_stack a_tree a_seen a_able a_places a_sizes a_clipStarts a_clipEnds a_eventKinds a_eventXs a_eventYs a_notes a_pixels : Nat → Int32}
variable {g_many g_waiting g_acted : Int32} {b_kids b_kidCount b_left b_top b_width b_height b_order b_stack b_events : Nat → Int32}
/-! T: Y: rectangles(), the outer loop -/
theorem py_rect44 {post : SY → Prop} {L : List Nat} {rk : Nat → Nat} {G : Nat → pd_V} (H : pd_BI a_there a_parents L rk) (hK : pd_KD a_parents b_kidCount b_kids L) (hV : pd_VA a_wishedPlaces a_wishedSizes a_weights a_layouts a_targets a_shifts)
    (hG : pd_LE a_parents a_wishedPlaces a_wishedSizes a_shifts a_visible a_enabled a_layouts a_gaps a_weights L G) :
    ∀ (m : Nat) (D T : List Nat) (n q d : Nat) (od st lf tp wd hg : Nat → Int32), m + D.length = 12 → pd_WL a_parents L D T → m < n → q = T.length → d = D.length → pd_sg od 0 D → pd_rs st T → (∀ w, w ∈ D ++ T → pd_YA G lf tp wd hg w) →
    (∀ od' st' lf' tp' wd' hg', pd_sg od' 0 (pd_run a_parents L m D T) → (∀ w, w ∈ pd_run a_parents L m D T → pd_YA G lf' tp' wd' hg' w) →
      post (nI (pd_run a_parents L m D T).length, g_waiting, f_noteCount, f_over, f_pressed, f_focus, g_acted, a_there, a_kinds, (fun j => a_wishedPlaces (2 * j)), (fun j => a_wishedPlaces (2 * j + 1)), (fun j => a_wishedSizes (2 * j)), (fun j => a_wishedSizes (2 * j + 1)), a_colours, a_layouts, a_gaps, a_weights, (fun j => a_shifts (2 * j)), (fun j => a_shifts (2 * j + 1)), a_visible, a_enabled, a_on, a_values, a_parents, a_effects, a_targets, b_kids, b_kidCount, lf', tp', wd', hg', od', st', a_pixels, b_events, a_notes)) →
    wY_rectangles_44 post n (nI q) (nI d) g_waiting f_noteCount f_over f_pressed f_focus g_acted a_there a_kinds (fun j => a_wishedPlaces (2 * j)) (fun j => a_wishedPlaces (2 * j + 1)) (fun j => a_wishedSizes (2 * j)) (fun j => a_wishedSizes (2 * j + 1)) a_colours a_layouts a_gaps a_weights (fun j => a_shifts (2 * j)) (fun j => a_shifts (2 * j + 1)) a_visible a_enabled a_on a_values a_parents a_effects a_targets b_kids b_kidCount lf tp wd hg od st a_pixels b_events a_notes := by
  have hL := pd_len11 H.1 H.2.1
  intro m
  induction m with
  | zero =>
    intro D T n q d od st lf tp wd hg hm hW hn hq hd ho hs hA h
    obtain ⟨n, rfl⟩ : ∃ k, n = k + 1 := ⟨n - 1, by omega⟩
    have hl := pd_WLlen H hW
    have e : T = [] := List.length_eq_zero_iff.mp (by omega)
    subst e hd hq
    rw [wY_rectangles_44]
    refine br_t (Int32.le_refl _) ?_
    exact h od st lf tp wd hg ho (fun w hw => hA w (by rw [List.append_nil]; exact hw))
  | succ m ih =>
    intro D T n q d od st lf tp wd hg hm hW hn hq hd ho hs hA h
    obtain ⟨n, rfl⟩ : ∃ k, n = k + 1 := ⟨n - 1, by omega⟩
    rw [wY_rectangles_44]
    cases T with
    | nil =>
      subst hd hq
      refine br_t (Int32.le_refl _) ?_
      exact h od st lf tp wd hg ho (fun w hw => hA w (by rw [List.append_nil]; exact hw))
    | cons w R =>
      rw [List.length_cons] at hq
      have hW' := pd_WLs H hW
      have hl := pd_WLlen H hW'
      rw [List.length_append, List.length_append, List.length_singleton] at hl
      have hw : w = 0 ∨ w ∈ L := hW.2.1 w (by simp)
      have hw12 := pd_12lt H.2.1 hw
      have hkw := (hK w hw).1
      subst hq hd
      refine br_f (nI_nle (by omega) (by omega)) (nm_r (pd_m1 _) ⟨vp_in_nI (by omega) (by omega), nm_r (e' := nI w) (by rw [pd_cl (by omega)]; exact hs.1) (nm_r (nI_1 _) ⟨vp_in_nI (by omega) (by omega), nm_r (e' := upd od D.length (nI w)) (by rw [pd_cl (by omega)]) ⟨vp_in_nI hw12 (by omega), nm_r (e' := nI (pd_kd a_parents L w).length + (-1)) (by rw [pd_cl (by omega), hkw, Int32.sub_eq_add_neg]) ⟨(pd_kd a_parents L w).length + 1, ?_⟩⟩⟩)⟩)
      refine py_rect84 (G := G) (T := R) H hK hV hG hw (hA w (by simp)) (by omega) (fun st1 lf1 tp1 wd1 hg1 h1 h2 h3 => ?_) (pd_kd a_parents L w).length _ R.length _ st (Nat.le_refl _) (by omega) rfl (by simp) (by rw [List.drop_length]; exact hs.2)
      refine ih (D ++ [w]) (pd_kd a_parents L w ++ R) n _ _ _ st1 lf1 tp1 wd1 hg1 (by rw [List.length_append, List.length_singleton]; omega) hW' (by omega) rfl (by rw [List.length_append, List.length_singleton]) (pd_sg_e ho) h1 (fun v hv => ?_) (fun od2 st2 lf2 tp2 wd2 hg2 k1 k2 => h od2 st2 lf2 tp2 wd2 hg2 k1 k2)
      simp only [List.mem_append, List.mem_cons, List.not_mem_nil, or_false] at hv
      rcases hv with (hv | hv) | (hv | hv)
      · exact h2 v (hA v (by simp [hv]))
      · exact h2 v (hA v (by simp [hv]))
      · exact h3 v hv
      · exact h2 v (hA v (by simp [hv]))
/-- after rectangles(): the order and the rectangles -/
def pd_YO (G : Nat → pd_V) (pa : Nat → Int32) (L : List Nat) (mn : Int32) (od lf tp wd hg : Nat → Int32) : Prop :=
  mn = nI (pd_ord pa L).length ∧ pd_sg od 0 (pd_ord pa L) ∧ ∀ w, (w = 0 ∨ w ∈ L) → pd_YA G lf tp wd hg w
theorem py_rect {post : SY → Prop} {L : List Nat} {rk : Nat → Nat} {G : Nat → pd_V} (H : pd_BI a_there a_parents L rk) (hK : pd_KD a_parents b_kidCount b_kids L) (hV : pd_VA a_wishedPlaces a_wishedSizes a_weights a_layouts a_targets a_shifts)
    (hG : pd_LE a_parents a_wishedPlaces a_wishedSizes a_shifts a_visible a_enabled a_layouts a_gaps a_weights L G)
    (h : ∀ mn od st lf tp wd hg, pd_YO G a_parents L mn od lf tp wd hg → post (mn, g_waiting, f_noteCount, f_over, f_pressed, f_focus, g_acted, a_there, a_kinds, (fun j => a_wishedPlaces (2 * j)), (fun j => a_wishedPlaces (2 * j + 1)), (fun j => a_wishedSizes (2 * j)), (fun j => a_wishedSizes (2 * j + 1)), a_colours, a_layouts, a_gaps, a_weights, (fun j => a_shifts (2 * j)), (fun j => a_shifts (2 * j + 1)), a_visible, a_enabled, a_on, a_values, a_parents, a_effects, a_targets, b_kids, b_kidCount, lf, tp, wd, hg, od, st, a_pixels, b_events, a_notes)) : wpY_rectangles post (g_many, g_waiting, f_noteCount, f_over, f_pressed, f_focus, g_acted, a_there, a_kinds, (fun j => a_wishedPlaces (2 * j)), (fun j => a_wishedPlaces (2 * j + 1)), (fun j => a_wishedSizes (2 * j)), (fun j => a_wishedSizes (2 * j + 1)), a_colours, a_layouts, a_gaps, a_weights, (fun j => a_shifts (2 * j)), (fun j => a_shifts (2 * j + 1)), a_visible, a_enabled, a_on, a_values, a_parents, a_effects, a_targets, b_kids, b_kidCount, b_left, b_top, b_width, b_height, b_order, b_stack, a_pixels, b_events, a_notes) := by
  have hV0 := hV
  obtain ⟨⟨v0, v1, v2, v3⟩, _⟩ := hV0
  refine nm_e (nm_e (nm_e (nm_e (nm_e ⟨13, ?_⟩))))
  refine py_rect44 (G := G) H hK hV hG 12 [] [0] 13 1 0 b_order _ _ _ _ _ rfl (pd_WL0 _ _) (by omega) rfl rfl trivial ⟨pd_us, trivial⟩ (fun w hw => ?_) (fun od st lf tp wd hg k1 k2 => h _ od st lf tp wd hg ⟨rfl, k1, fun w hw => k2 w ((pd_ordM H w).mpr hw)⟩)
  have : w = 0 := by simpa using hw
  subst this
  unfold pd_YA
  rw [hG.1, pd_us, pd_us, pd_us, pd_us]
  exact ⟨v0.symm, v1.symm, v2.symm, v3.symm⟩
/-! U: Y: what looks upwards -/
theorem py_seen {L : List Nat} {rk : Nat → Nat} {G : Nat → pd_V} (H : pd_BI a_there a_parents L rk) (hG : pd_LE a_parents a_wishedPlaces a_wishedSizes a_shifts a_visible a_enabled a_layouts a_gaps a_weights L G) {post : Int32 → Prop} :
    ∀ w, (w = 0 ∨ w ∈ L) → (¬ (G w).2.2.1 = 0 → post 1) → ((G w).2.2.1 = 0 → post 0) → wpY_isSeen post (g_many, g_waiting, f_noteCount, f_over, f_pressed, f_focus, g_acted, a_there, a_kinds, (fun j => a_wishedPlaces (2 * j)), (fun j => a_wishedPlaces (2 * j + 1)), (fun j => a_wishedSizes (2 * j)), (fun j => a_wishedSizes (2 * j + 1)), a_colours, a_layouts, a_gaps, a_weights, (fun j => a_shifts (2 * j)), (fun j => a_shifts (2 * j + 1)), a_visible, a_enabled, a_on, a_values, a_parents, a_effects, a_targets, b_kids, b_kidCount, b_left, b_top, b_width, b_height, b_order, b_stack, a_pixels, b_events, a_notes) (nI w) := by
  refine pd_ind H _ ?_ ?_
  · intro h1 h0
    have e : (G 0).2.2.1 = if ¬ a_visible 0 = 0 then 1 else 0 := by rw [hG.1]; rfl
    refine ⟨2, ?_⟩
    rw [wY_isSeen_2]
    refine br_f (by decide) ⟨vp_in_nI (n := 0) (by omega) (by omega), ?_⟩
    rw [pd_cl (n := 0) (by omega)]
    by_cases c : a_visible 0 = 0
    · exact br_t c (h0 (by rw [e, if_neg (fun z => z c)]))
    · refine br_f c ⟨vp_in_nI (n := 0) (by omega) (by omega), nm_r (e' := -1) H.2.2.2.1 ?_⟩
      rw [wY_isSeen_2]
      exact br_t (by decide) (h1 (by rw [e, if_pos c]; decide))
  · intro c p hc hp ep ih h1 h0
    have hc12 := (H.2.1 c hc).2
    have e := pd_see hG hc hp ep
    have cc : (nI c).toNatClampNeg = c := pd_cl (by omega)
    by_cases v : a_visible c = 0
    · refine ⟨1, ?_⟩
      rw [wY_isSeen_2]
      refine br_f (nI_pos (by omega)) ⟨vp_in_nI hc12 (by omega), ?_⟩
      rw [cc]
      exact br_t v (h0 (by rw [e, if_neg (fun z => z.1 v)]))
    · obtain ⟨n, hn⟩ := ih (fun z => h1 (by rw [e, if_pos ⟨v, z⟩]; decide)) (fun z => h0 (by rw [e, if_neg (fun y => y.2 z)]))
      refine ⟨n + 1, ?_⟩
      rw [wY_isSeen_2]
      refine br_f (nI_pos (by omega)) ⟨vp_in_nI hc12 (by omega), ?_⟩
      rw [cc]
      exact br_f v ⟨vp_in_nI hc12 (by omega), nm_r ep hn⟩
theorem py_able {L : List Nat} {rk : Nat → Nat} {G : Nat → pd_V} (H : pd_BI a_there a_parents L rk) (hG : pd_LE a_parents a_wishedPlaces a_wishedSizes a_shifts a_visible a_enabled a_layouts a_gaps a_weights L G) {post : Int32 → Prop} :
    ∀ w, (w = 0 ∨ w ∈ L) → (¬ (G w).2.2.2.1 = 0 → post 1) → ((G w).2.2.2.1 = 0 → post 0) → wpY_isAble post (g_many, g_waiting, f_noteCount, f_over, f_pressed, f_focus, g_acted, a_there, a_kinds, (fun j => a_wishedPlaces (2 * j)), (fun j => a_wishedPlaces (2 * j + 1)), (fun j => a_wishedSizes (2 * j)), (fun j => a_wishedSizes (2 * j + 1)), a_colours, a_layouts, a_gaps, a_weights, (fun j => a_shifts (2 * j)), (fun j => a_shifts (2 * j + 1)), a_visible, a_enabled, a_on, a_values, a_parents, a_effects, a_targets, b_kids, b_kidCount, b_left, b_top, b_width, b_height, b_order, b_stack, a_pixels, b_events, a_notes) (nI w) := by
  refine pd_ind H _ ?_ ?_
  · intro h1 h0
    have e : (G 0).2.2.2.1 = if ¬ a_enabled 0 = 0 then 1 else 0 := by rw [hG.1]; rfl
    refine ⟨2, ?_⟩
    rw [wY_isAble_2]
    refine br_f (by decide) ⟨vp_in_nI (n := 0) (by omega) (by omega), ?_⟩
    rw [pd_cl (n := 0) (by omega)]
    by_cases c : a_enabled 0 = 0
    · exact br_t c (h0 (by rw [e, if_neg (fun z => z c)]))
    · refine br_f c ⟨vp_in_nI (n := 0) (by omega) (by omega), nm_r (e' := -1) H.2.2.2.1 ?_⟩
      rw [wY_isAble_2]
      exact br_t (by decide) (h1 (by rw [e, if_pos c]; decide))
  · intro c p hc hp ep ih h1 h0
    have hc12 := (H.2.1 c hc).2
    have e := pd_abl hG hc hp ep
    have cc : (nI c).toNatClampNeg = c := pd_cl (by omega)
    by_cases v : a_enabled c = 0
    · refine ⟨1, ?_⟩
      rw [wY_isAble_2]
      refine br_f (nI_pos (by omega)) ⟨vp_in_nI hc12 (by omega), ?_⟩
      rw [cc]
      exact br_t v (h0 (by rw [e, if_neg (fun z => z.1 v)]))
    · obtain ⟨n, hn⟩ := ih (fun z => h1 (by rw [e, if_pos ⟨v, z⟩]; decide)) (fun z => h0 (by rw [e, if_neg (fun y => y.2 z)]))
      refine ⟨n + 1, ?_⟩
      rw [wY_isAble_2]
      refine br_f (nI_pos (by omega)) ⟨vp_in_nI hc12 (by omega), ?_⟩
      rw [cc]
      exact br_f v ⟨vp_in_nI hc12 (by omega), nm_r ep hn⟩
theorem py_cov {post : Int32 → Prop} {w : Nat} {x y : Int32} {G : Nat → pd_V} (hw : w < 12) (hA : pd_YA G b_left b_top b_width b_height w) (h1 : pd_cov (G w) x y → post 1) (h0 : ¬ pd_cov (G w) x y → post 0) : wpY_covers post (g_many, g_waiting, f_noteCount, f_over, f_pressed, f_focus, g_acted, a_there, a_kinds, (fun j => a_wishedPlaces (2 * j)), (fun j => a_wishedPlaces (2 * j + 1)), (fun j => a_wishedSizes (2 * j)), (fun j => a_wishedSizes (2 * j + 1)), a_colours, a_layouts, a_gaps, a_weights, (fun j => a_shifts (2 * j)), (fun j => a_shifts (2 * j + 1)), a_visible, a_enabled, a_on, a_values, a_parents, a_effects, a_targets, b_kids, b_kidCount, b_left, b_top, b_width, b_height, b_order, b_stack, a_pixels, b_events, a_notes) (nI w) x y := by
  have vw : vp_in (nI w) 12 := vp_in_nI hw (by omega)
  have cw : (nI w).toNatClampNeg = w := pd_cl (by omega)
  obtain ⟨a1, a2, a3, a4⟩ := hA
  refine ⟨vw, ?_⟩
  rw [cw, a1, a2, a3, a4]
  by_cases c1 : x < (G w).1 0
  · exact br_t c1 (h0 (fun z => absurd c1 (Int32.not_lt.mpr z.1)))
  · by_cases c2 : (G w).1 0 + (G w).2.1 0 ≤ x
    · exact br_f c1 ⟨vw, vw, br_t c2 (h0 (fun z => absurd c2 (Int32.not_le.mpr z.2.1)))⟩
    · by_cases c3 : y < (G w).1 1
      · exact br_f c1 ⟨vw, vw, br_f c2 ⟨vw, br_t c3 (h0 (fun z => absurd c3 (Int32.not_lt.mpr z.2.2.1)))⟩⟩
      · by_cases c4 : (G w).1 1 + (G w).2.1 1 ≤ y
        · exact br_f c1 ⟨vw, vw, br_f c2 ⟨vw, br_f c3 ⟨vw, vw, br_t c4 (h0 (fun z => absurd c4 (Int32.not_le.mpr z.2.2.2)))⟩⟩⟩
        · exact br_f c1 ⟨vw, vw, br_f c2 ⟨vw, br_f c3 ⟨vw, vw, br_f c4 (h1 ⟨Int32.not_lt.mp c1, Int32.not_le.mp c2, Int32.not_lt.mp c3, Int32.not_le.mp c4⟩)⟩⟩⟩
theorem py_shows {L : List Nat} {rk : Nat → Nat} {G : Nat → pd_V} (H : pd_BI a_there a_parents L rk) (hG : pd_LE a_parents a_wishedPlaces a_wishedSizes a_shifts a_visible a_enabled a_layouts a_gaps a_weights L G) (hA : ∀ w, (w = 0 ∨ w ∈ L) → pd_YA G b_left b_top b_width b_height w) {post : Int32 → Prop} {x y : Int32} :
    ∀ w, (w = 0 ∨ w ∈ L) → (pd_sho (G w) x y → post 1) → (¬ pd_sho (G w) x y → post 0) → wpY_shows post (g_many, g_waiting, f_noteCount, f_over, f_pressed, f_focus, g_acted, a_there, a_kinds, (fun j => a_wishedPlaces (2 * j)), (fun j => a_wishedPlaces (2 * j + 1)), (fun j => a_wishedSizes (2 * j)), (fun j => a_wishedSizes (2 * j + 1)), a_colours, a_layouts, a_gaps, a_weights, (fun j => a_shifts (2 * j)), (fun j => a_shifts (2 * j + 1)), a_visible, a_enabled, a_on, a_values, a_parents, a_effects, a_targets, b_kids, b_kidCount, b_left, b_top, b_width, b_height, b_order, b_stack, a_pixels, b_events, a_notes) (nI w) x y := by
  refine pd_ind H _ ?_ ?_
  · intro h1 h0
    have e := pd_sho0 hG x y
    refine ⟨2, ?_⟩
    rw [wY_shows_3]
    refine br_f (by decide) ⟨vp_in_nI (n := 0) (by omega) (by omega), ?_⟩
    rw [pd_cl (n := 0) (by omega)]
    by_cases c : a_visible 0 = 0
    · exact br_t c (h0 (fun z => (e.mp z).1 c))
    · refine br_f c (py_cov (G := G) (w := 0) (by omega) (hA 0 (Or.inl rfl)) (fun z => br_f (by decide) ⟨vp_in_nI (n := 0) (by omega) (by omega), nm_r (e' := -1) H.2.2.2.1 ?_⟩) (fun z => br_t rfl (h0 (fun y => z (e.mp y).2))))
      rw [wY_shows_3]
      exact br_t (by decide) (h1 (e.mpr ⟨c, z⟩))
  · intro c p hc hp ep ih h1 h0
    have hc12 := (H.2.1 c hc).2
    have e := pd_shos hG hc hp ep x y
    have cc : (nI c).toNatClampNeg = c := pd_cl (by omega)
    by_cases v : a_visible c = 0
    · refine ⟨1, ?_⟩
      rw [wY_shows_3]
      refine br_f (nI_pos (by omega)) ⟨vp_in_nI hc12 (by omega), ?_⟩
      rw [cc]
      exact br_t v (h0 (fun z => (e.mp z).1.1 v))
    · by_cases g : pd_cov (G c) x y
      · obtain ⟨n, hn⟩ := ih (fun z => h1 (e.mpr ⟨⟨v, g⟩, z⟩)) (fun z => h0 (fun y => z (e.mp y).2))
        refine ⟨n + 1, ?_⟩
        rw [wY_shows_3]
        refine br_f (nI_pos (by omega)) ⟨vp_in_nI hc12 (by omega), ?_⟩
        rw [cc]
        exact br_f v (py_cov (G := G) hc12 (hA c (Or.inr hc)) (fun _ => br_f (by decide) ⟨vp_in_nI hc12 (by omega), nm_r (e' := nI p) ep hn⟩) (fun z => absurd g z))
      · refine ⟨1, ?_⟩
        rw [wY_shows_3]
        refine br_f (nI_pos (by omega)) ⟨vp_in_nI hc12 (by omega), ?_⟩
        rw [cc]
        exact br_f v (py_cov (G := G) hc12 (hA c (Or.inr hc)) (fun z => absurd z g) (fun _ => br_t rfl (h0 (fun z => g (e.mp z).1.2))))
end PDM
end
section
section PDN
variable {f_stacked f_treeSize f_over f_pressed f_focus f_waiting f_noteCount : Int32} {a_there a_parents a_kinds a_colours a_weights a_gaps a_layouts a_values a_effects a_targets a_visible a_enabled a_on a_wishedPlaces a_wishedSizes a_shifts a_stack a_tree a_seen a_able a_places a_sizes a_clipStarts a_clipEnds a_eventKinds a_eventXs a_eventYs a_notes a_pixels : Nat → Int32}
variable {g_many g_waiting g_acted : Int32} {b_kids b_kidCount b_left b_top b_width b_height b_order b_stack b_events : Nat → Int32}
/-! V: what arguments may be, on both sides -/
def pd_wi (x l g : Int32) : Int32 := if x < l then 0 else if g < x then 0 else 1
theorem px_wi {post : Int32 → Prop} {x l g : Int32} (h : post (pd_wi x l g)) : wpX_isWithin post x l g := by
  unfold pd_wi at h
  by_cases a : x < l
  · rw [if_pos a] at h; exact br_t a h
  · rw [if_neg a] at h
    by_cases b : g < x
    · rw [if_pos b] at h; exact br_f a (br_t b h)
    · rw [if_neg b] at h; exact br_f a (br_f b h)
theorem py_wi {post : Int32 → Prop} {x l g : Int32} (h : post (pd_wi x l g)) : wpY_within post x l g := by
  unfold pd_wi at h
  by_cases a : x < l
  · rw [if_pos a] at h; exact br_t a h
  · rw [if_neg a] at h
    by_cases b : g < x
    · rw [if_pos b] at h; exact br_f a (br_t b h)
    · rw [if_neg b] at h; exact br_f a (br_f b h)
theorem pd_wi1 {x l g : Int32} (h : ¬ pd_wi x l g = 0) : ¬ x < l ∧ x ≤ g := by
  unfold pd_wi at h
  by_cases a : x < l
  · rw [if_pos a] at h; exact absurd rfl h
  · rw [if_neg a] at h
    by_cases b : g < x
    · rw [if_pos b] at h; exact absurd rfl h
    · exact ⟨a, Int32.not_lt.mp b⟩
theorem pd_wiN {x g : Int32} {n : Nat} (hg : g.toInt = n) (h : ¬ pd_wi x 0 g = 0) : ∃ k, k ≤ n ∧ x = nI k := by
  obtain ⟨a, b⟩ := pd_wi1 h
  exact nI_of2 hg a b
def pd_is (th : Nat → Int32) (x : Int32) : Int32 := if x < 0 then 0 else if 12 ≤ x then 0 else if th x.toNatClampNeg = 0 then 0 else 1
theorem px_is {post : Int32 → Prop} {x : Int32} (h : post (pd_is a_there x)) : wpX_isThere post (f_stacked, f_treeSize, f_over, f_pressed, f_focus, f_waiting, f_noteCount, a_there, a_parents, a_kinds, a_colours, a_weights, a_gaps, a_layouts, a_values, a_effects, a_targets, a_visible, a_enabled, a_on, a_wishedPlaces, a_wishedSizes, a_shifts, a_stack, a_tree, a_seen, a_able, a_places, a_sizes, a_clipStarts, a_clipEnds, a_eventKinds, a_eventXs, a_eventYs, a_notes, a_pixels) x := by
  unfold pd_is at h
  by_cases a : x < 0
  · rw [if_pos a] at h; exact br_t a h
  · rw [if_neg a] at h
    by_cases b : 12 ≤ x
    · rw [if_pos b] at h; exact br_f a (br_t b h)
    · rw [if_neg b] at h
      obtain ⟨w, hw, e⟩ := pd_isx (Int32.not_lt.mp a) (Int32.not_le.mp b)
      have v : vp_in x 12 := by rw [e]; exact vp_in_nI hw (by omega)
      by_cases c : a_there x.toNatClampNeg = 0
      · rw [if_pos c] at h; exact br_f a (br_f b ⟨v, br_t c h⟩)
      · rw [if_neg c] at h; exact br_f a (br_f b ⟨v, br_f c h⟩)
theorem py_is {post : Int32 → Prop} {x : Int32} (h : post (pd_is a_there x)) : wpY_is post (g_many, g_waiting, f_noteCount, f_over, f_pressed, f_focus, g_acted, a_there, a_kinds, (fun j => a_wishedPlaces (2 * j)), (fun j => a_wishedPlaces (2 * j + 1)), (fun j => a_wishedSizes (2 * j)), (fun j => a_wishedSizes (2 * j + 1)), a_colours, a_layouts, a_gaps, a_weights, (fun j => a_shifts (2 * j)), (fun j => a_shifts (2 * j + 1)), a_visible, a_enabled, a_on, a_values, a_parents, a_effects, a_targets, b_kids, b_kidCount, b_left, b_top, b_width, b_height, b_order, b_stack, a_pixels, b_events, a_notes) x := by
  unfold pd_is at h
  by_cases a : x < 0
  · rw [if_pos a] at h; exact br_t a h
  · rw [if_neg a] at h
    by_cases b : 12 ≤ x
    · rw [if_pos b] at h; exact br_f a (br_t b h)
    · rw [if_neg b] at h
      obtain ⟨w, hw, e⟩ := pd_isx (Int32.not_lt.mp a) (Int32.not_le.mp b)
      have v : vp_in x 12 := by rw [e]; exact vp_in_nI hw (by omega)
      by_cases c : a_there x.toNatClampNeg = 0
      · rw [if_pos c] at h; exact br_f a (br_f b ⟨v, br_t c h⟩)
      · rw [if_neg c] at h; exact br_f a (br_f b ⟨v, br_f c h⟩)
theorem pd_is1 {th : Nat → Int32} {x : Int32} (h : ¬ pd_is th x = 0) : ∃ w, w < 12 ∧ x = nI w ∧ th w ≠ 0 := by
  unfold pd_is at h
  by_cases a : x < 0
  · rw [if_pos a] at h; exact absurd rfl h
  · rw [if_neg a] at h
    by_cases b : 12 ≤ x
    · rw [if_pos b] at h; exact absurd rfl h
    · rw [if_neg b] at h
      obtain ⟨w, hw, e⟩ := pd_isx (Int32.not_lt.mp a) (Int32.not_le.mp b)
      subst e
      rw [pd_cl (by omega)] at h
      refine ⟨w, hw, rfl, fun c => ?_⟩
      rw [if_pos c] at h
      exact h rfl
def pd_wh (x y w h : Int32) : Int32 := if pd_wi x (-40) 40 = 0 then 0 else if pd_wi y (-40) 40 = 0 then 0 else if pd_wi w 1 32 = 0 then 0 else if pd_wi h 1 32 = 0 then 0 else 1
theorem px_wh {post : Int32 → Prop} {x y w z : Int32} (h : post (pd_wh x y w z)) : wpX_isWish post x y w z := by
  unfold pd_wh at h
  unfold wpX_isWish
  refine px_wi ?_
  by_cases a : pd_wi x (-40) 40 = 0
  · rw [if_pos a] at h; exact br_t a h
  · rw [if_neg a] at h
    refine br_f a (px_wi ?_)
    by_cases b : pd_wi y (-40) 40 = 0
    · rw [if_pos b] at h; exact br_t b h
    · rw [if_neg b] at h
      refine br_f b (px_wi ?_)
      by_cases c : pd_wi w 1 32 = 0
      · rw [if_pos c] at h; exact br_t c h
      · rw [if_neg c] at h
        refine br_f c (px_wi ?_)
        by_cases d : pd_wi z 1 32 = 0
        · rw [if_pos d] at h; exact br_t d h
        · rw [if_neg d] at h; exact br_f d h
theorem py_wh {post : Int32 → Prop} {x y w z : Int32} (h : post (pd_wh x y w z)) : wpY_fits post x y w z := by
  unfold pd_wh at h
  unfold wpY_fits
  refine py_wi ?_
  by_cases a : pd_wi x (-40) 40 = 0
  · rw [if_pos a] at h; exact br_t a h
  · rw [if_neg a] at h
    refine br_f a (py_wi ?_)
    by_cases b : pd_wi y (-40) 40 = 0
    · rw [if_pos b] at h; exact br_t b h
    · rw [if_neg b] at h
      refine br_f b (py_wi ?_)
      by_cases c : pd_wi w 1 32 = 0
      · rw [if_pos c] at h; exact br_t c h
      · rw [if_neg c] at h
        refine br_f c (py_wi ?_)
        by_cases d : pd_wi z 1 32 = 0
        · rw [if_pos d] at h; exact br_t d h
        · rw [if_neg d] at h; exact br_f d h
end PDN
/-! W: the methods that only look -/
theorem i_vc_special {k : Nat} {u : SX} {v : SY} (I : i_Rel k u v) (hk : k + 8 ≤ 4096) (v1 : Int32) : wpX_special (fun r => wpY_special (fun r' => r' = r ∧ i_Rel (k + 8) u v) v v1) u v1 := by
  have I' : i_Rel (k + 8) u v := I
  obtain ⟨L, rk, M, D⟩ := I
  obtain ⟨f_stacked, f_treeSize, f_over, f_pressed, f_focus, f_waiting, f_noteCount, a_there, a_parents, a_kinds, a_colours, a_weights, a_gaps, a_layouts, a_values, a_effects, a_targets, a_visible, a_enabled, a_on, a_wishedPlaces, a_wishedSizes, a_shifts, a_stack, a_tree, a_seen, a_able, a_places, a_sizes, a_clipStarts, a_clipEnds, a_eventKinds, a_eventXs, a_eventYs, a_notes, a_pixels⟩ := u
  obtain ⟨g_many, g_waiting, g_acted, b_kids, b_kidCount, b_left, b_top, b_width, b_height, b_order, b_stack, b_events, rfl, hB, hS, hK, hV, ho, hpr, hf, hq⟩ := M
  by_cases a : v1 < 0
  · have n0 : ¬ v1 = 0 := fun z => by rw [z] at a; exact absurd a (by decide)
    have n1 : ¬ v1 = 1 := fun z => by rw [z] at a; exact absurd a (by decide)
    have n2 : ¬ v1 = 2 := fun z => by rw [z] at a; exact absurd a (by decide)
    exact br_t a (br_f n0 (br_f n1 (br_f n2 ⟨rfl, I'⟩)))
  · by_cases b : 2 < v1
    · have n0 : ¬ v1 = 0 := fun z => by rw [z] at b; exact absurd b (by decide)
      have n1 : ¬ v1 = 1 := fun z => by rw [z] at b; exact absurd b (by decide)
      have n2 : ¬ v1 = 2 := fun z => by rw [z] at b; exact absurd b (by decide)
      exact br_f a (br_t b (br_f n0 (br_f n1 (br_f n2 ⟨rfl, I'⟩))))
    · refine br_f a (br_f b ?_)
      by_cases n0 : v1 = 0
      · exact br_t n0 (br_t n0 ⟨rfl, I'⟩)
      · by_cases n1 : v1 = 1
        · exact br_f n0 (br_t n1 (br_f n0 (br_t n1 ⟨rfl, I'⟩)))
        · by_cases n2 : v1 = 2
          · exact br_f n0 (br_f n1 (br_t n2 (br_f n0 (br_f n1 (br_t n2 ⟨rfl, I'⟩)))))
          · exact br_f n0 (br_f n1 (br_f n2 trivial))
theorem i_vc_noted {k : Nat} {u : SX} {v : SY} (I : i_Rel k u v) (hk : k + 8 ≤ 4096) (v1 : Int32) : wpX_noted (fun r => wpY_noted (fun r' => r' = r ∧ i_Rel (k + 8) u v) v v1) u v1 := by
  have I' : i_Rel (k + 8) u v := I
  obtain ⟨L, rk, M, D⟩ := I
  obtain ⟨f_stacked, f_treeSize, f_over, f_pressed, f_focus, f_waiting, f_noteCount, a_there, a_parents, a_kinds, a_colours, a_weights, a_gaps, a_layouts, a_values, a_effects, a_targets, a_visible, a_enabled, a_on, a_wishedPlaces, a_wishedSizes, a_shifts, a_stack, a_tree, a_seen, a_able, a_places, a_sizes, a_clipStarts, a_clipEnds, a_eventKinds, a_eventXs, a_eventYs, a_notes, a_pixels⟩ := u
  obtain ⟨g_many, g_waiting, g_acted, b_kids, b_kidCount, b_left, b_top, b_width, b_height, b_order, b_stack, b_events, rfl, hB, hS, hK, hV, ho, hpr, hf, hq⟩ := M
  have vI : vp_in (((f_noteCount - 1) - v1) &&& 15) 16 := pk_andIn _ (m := 15) 4 (by decide) (by decide)
  by_cases a : v1 = -1
  · exact br_t a (br_t a ⟨rfl, I'⟩)
  · refine br_f a (px_wi ?_)
    by_cases b : pd_wi v1 0 15 = 0
    · exact br_t b (br_f a (py_wi (br_t b ⟨rfl, I'⟩)))
    · refine br_f b ?_
      by_cases c : v1 < f_noteCount
      · exact br_t c ⟨vI, br_f a (py_wi (br_f b (br_t c ⟨vI, rfl, I'⟩)))⟩
      · exact br_f c (br_f a (py_wi (br_f b (br_f c ⟨rfl, I'⟩))))
theorem i_vc_pixel {k : Nat} {u : SX} {v : SY} (I : i_Rel k u v) (hk : k + 8 ≤ 4096) (v1 : Int32) (v2 : Int32) : wpX_pixel (fun r => wpY_pixel (fun r' => r' = r ∧ i_Rel (k + 8) u v) v v1 v2) u v1 v2 := by
  have I' : i_Rel (k + 8) u v := I
  obtain ⟨L, rk, M, D⟩ := I
  obtain ⟨f_stacked, f_treeSize, f_over, f_pressed, f_focus, f_waiting, f_noteCount, a_there, a_parents, a_kinds, a_colours, a_weights, a_gaps, a_layouts, a_values, a_effects, a_targets, a_visible, a_enabled, a_on, a_wishedPlaces, a_wishedSizes, a_shifts, a_stack, a_tree, a_seen, a_able, a_places, a_sizes, a_clipStarts, a_clipEnds, a_eventKinds, a_eventXs, a_eventYs, a_notes, a_pixels⟩ := u
  obtain ⟨g_many, g_waiting, g_acted, b_kids, b_kidCount, b_left, b_top, b_width, b_height, b_order, b_stack, b_events, rfl, hB, hS, hK, hV, ho, hpr, hf, hq⟩ := M
  unfold wpX_pixel wpY_pixel wpY_isPixel
  refine px_wi ?_
  by_cases a : pd_wi v1 0 31 = 0
  · exact br_t a (py_wi (br_t a (br_t rfl ⟨rfl, I'⟩)))
  · refine br_f a (px_wi ?_)
    by_cases b : pd_wi v2 0 15 = 0
    · exact br_t b (py_wi (br_f a (py_wi (br_t b (br_t rfl ⟨rfl, I'⟩)))))
    · obtain ⟨x, hx, ex⟩ := pd_wiN (n := 31) (by decide) a
      obtain ⟨y, hy, ey⟩ := pd_wiN (n := 15) (by decide) b
      have vI : vp_in (32 * v2 + v1) 512 := by
        rw [ex, ey, show (32 : Int32) = nI 32 from rfl, pd_mul, nI_add]
        exact vp_in_nI (by omega) (by omega)
      exact br_f b ⟨vI, py_wi (br_f a (py_wi (br_f b (br_f (by decide) ⟨vI, rfl, I'⟩))))⟩
end
section
section PDO
variable {f_stacked f_treeSize f_over f_pressed f_focus f_waiting f_noteCount : Int32} {a_there a_parents a_kinds a_colours a_weights a_gaps a_layouts a_values a_effects a_targets a_visible a_enabled a_on a_wishedPlaces a_wishedSizes a_shifts a_stack a_tree a_seen a_able a_places a_sizes a_clipStarts a_clipEnds a_eventKinds a_eventXs a_eventYs a_notes a_pixels : Nat → Int32}
variable {g_many g_waiting g_acted : Int32} {b_kids b_kidCount b_left b_top b_width b_height b_order b_stack b_events : Nat → Int32}
theorem pd_uP {P : Int32 → Prop} {f : Nat → Int32} {w N : Nat} {x : Int32} (h : ∀ c, c < N → P (f c)) (hx : P x) : ∀ c, c < N → P (upd f w x c) := by
  intro c hc
  by_cases e : c = w
  · subst e; rw [pd_us]; exact hx
  · rw [pd_un e]; exact h c hc
theorem pd_scr4 : ∀ (d i : Nat) (s : Int32), i + d = 512 → ∃ r, (∀ post : Int32 → Prop, post r → wX_screen_4 post f_stacked f_treeSize f_over f_pressed f_focus f_waiting f_noteCount a_there a_parents a_kinds a_colours a_weights a_gaps a_layouts a_values a_effects a_targets a_visible a_enabled a_on a_wishedPlaces a_wishedSizes a_shifts a_stack a_tree a_seen a_able a_places a_sizes a_clipStarts a_clipEnds a_eventKinds a_eventXs a_eventYs a_notes a_pixels (d + 1) s (nI i)) ∧ (∀ post : Int32 → Prop, post r → wY_screen_4 post g_many g_waiting f_noteCount f_over f_pressed f_focus g_acted a_there a_kinds (fun j => a_wishedPlaces (2 * j)) (fun j => a_wishedPlaces (2 * j + 1)) (fun j => a_wishedSizes (2 * j)) (fun j => a_wishedSizes (2 * j + 1)) a_colours a_layouts a_gaps a_weights (fun j => a_shifts (2 * j)) (fun j => a_shifts (2 * j + 1)) a_visible a_enabled a_on a_values a_parents a_effects a_targets b_kids b_kidCount b_left b_top b_width b_height b_order b_stack a_pixels b_events a_notes (d + 1) s (nI i)) := by
  intro d
  induction d with
  | zero =>
    intro i s hi
    have h : (512 : Int32) ≤ nI i := nI_le (a := 512) (by omega) (by omega)
    exact ⟨s, fun _ hp => br_t h hp, fun _ hp => br_t h hp⟩
  | succ d ih =>
    intro i s hi
    have h : ¬ (512 : Int32) ≤ nI i := nI_ge (b := 512) (by omega) (by omega)
    have v : vp_in (nI i) 512 := vp_in_nI (by omega) (by omega)
    obtain ⟨r, hX, hY⟩ := ih (i + 1) (s * 31 + a_pixels (nI i).toNatClampNeg) (by omega)
    exact ⟨r, fun post hp => br_f h ⟨v, nm_e (nm_r (nI_1 i) (hX post hp))⟩, fun post hp => br_f h ⟨v, nm_e (nm_r (nI_1 i) (hY post hp))⟩⟩
/-! X: which widget is at a pixel -/
theorem px_atp {post : Int32 → Prop} {w : Nat} {x y : Int32} {G : Nat → pd_V} (hw : w < 12) (hD : pd_DA G a_seen a_able a_places a_sizes a_clipStarts a_clipEnds w) (h1 : pd_sho (G w) x y → post 1) (h0 : ¬ pd_sho (G w) x y → post 0) : wpX_isAtPixel post (f_stacked, f_treeSize, f_over, f_pressed, f_focus, f_waiting, f_noteCount, a_there, a_parents, a_kinds, a_colours, a_weights, a_gaps, a_layouts, a_values, a_effects, a_targets, a_visible, a_enabled, a_on, a_wishedPlaces, a_wishedSizes, a_shifts, a_stack, a_tree, a_seen, a_able, a_places, a_sizes, a_clipStarts, a_clipEnds, a_eventKinds, a_eventXs, a_eventYs, a_notes, a_pixels) (nI w) x y := by
  have vw : vp_in (nI w) 12 := vp_in_nI hw (by omega)
  have cw : (nI w).toNatClampNeg = w := pd_cl (by omega)
  have v0 : vp_in (2 * nI w) 24 := by rw [pd_2]; exact vp_in_nI (by omega) (by omega)
  have c0 : (2 * nI w).toNatClampNeg = 2 * w + 0 := by rw [pd_2]; exact pd_cl (by omega)
  have v1 : vp_in (2 * nI w + 1) 24 := by rw [pd_21]; exact vp_in_nI (by omega) (by omega)
  have c1 : (2 * nI w + 1).toNatClampNeg = 2 * w + 1 := by rw [pd_21]; exact pd_cl (by omega)
  obtain ⟨hd, es, ea⟩ := hD
  obtain ⟨_, _, k1, k2⟩ := hd 0 (by omega)
  obtain ⟨_, _, k3, k4⟩ := hd 1 (by omega)
  refine ⟨vw, ?_⟩
  rw [cw, c0, c1, es, k1, k2, k3, k4]
  by_cases a : (G w).2.2.1 = 0
  · exact br_t a (h0 (fun z => z.1 a))
  · refine br_f a ⟨v0, ?_⟩
    by_cases b1 : x < (G w).2.2.2.2.1 0
    · exact br_t b1 (h0 (fun z => absurd b1 (Int32.not_lt.mpr z.2.1)))
    · refine br_f b1 ⟨v0, ?_⟩
      by_cases b2 : (G w).2.2.2.2.2 0 ≤ x
      · exact br_t b2 (h0 (fun z => absurd b2 (Int32.not_le.mpr z.2.2.1)))
      · refine br_f b2 ⟨v1, ?_⟩
        by_cases b3 : y < (G w).2.2.2.2.1 1
        · exact br_t b3 (h0 (fun z => absurd b3 (Int32.not_lt.mpr z.2.2.2.1)))
        · refine br_f b3 ⟨v1, ?_⟩
          by_cases b4 : (G w).2.2.2.2.2 1 ≤ y
          · exact br_t b4 (h0 (fun z => absurd b4 (Int32.not_le.mpr z.2.2.2.2)))
          · exact br_f b4 (h1 ⟨a, Int32.not_lt.mp b1, Int32.not_le.mp b2, Int32.not_lt.mp b3, Int32.not_le.mp b4⟩)
theorem px_wat5 {post : Int32 → Prop} {x y : Int32} {N : Nat} {L : List Nat} {G : Nat → pd_V} (hN : N ≤ 12) (hL : ∀ w, w ∈ L → 0 < w ∧ w < 12) (hD : ∀ w, (w = 0 ∨ w ∈ L) → pd_DA G a_seen a_able a_places a_sizes a_clipStarts a_clipEnds w) :
    ∀ (R : List Nat) (i n : Nat) (f : Int32), pd_sg a_tree i R → i + R.length = N → R.length < n → (∀ w, w ∈ R → w = 0 ∨ w ∈ L) → post (pd_fa G x y R f) →
    wX_widgetAt_5 post x y f_stacked (nI N) f_over f_pressed f_focus f_waiting f_noteCount a_there a_parents a_kinds a_colours a_weights a_gaps a_layouts a_values a_effects a_targets a_visible a_enabled a_on a_wishedPlaces a_wishedSizes a_shifts a_stack a_tree a_seen a_able a_places a_sizes a_clipStarts a_clipEnds a_eventKinds a_eventXs a_eventYs a_notes a_pixels n f (nI i) := by
  intro R
  induction R with
  | nil =>
    intro i n f _ hi hn _ h
    obtain ⟨n, rfl⟩ : ∃ m, n = m + 1 := ⟨n - 1, by omega⟩
    rw [wX_widgetAt_5]
    have hi' : i = N := hi
    exact br_t (by rw [hi']; exact Int32.le_refl _) h
  | cons w R ih =>
    intro i n f hs hi hn hR h
    obtain ⟨n, rfl⟩ : ∃ m, n = m + 1 := ⟨n - 1, by omega⟩
    rw [List.length_cons] at hi hn
    have hw := hR w (List.mem_cons_self ..)
    have hw12 := pd_12lt hL hw
    have es : a_tree (nI i).toNatClampNeg = nI w := by rw [pd_cl (by omega)]; exact hs.1
    have hR' : ∀ v, v ∈ R → v = 0 ∨ v ∈ L := fun v hv => hR v (List.mem_cons_of_mem _ hv)
    simp only [pd_fa] at h
    rw [wX_widgetAt_5]
    dsimp only
    rw [es]
    refine br_f (nI_ge (by omega) (by omega)) ⟨vp_in_nI (by omega) (by omega), px_atp (G := G) hw12 (hD w hw) (fun z => ?_) (fun z => ?_)⟩
    · rw [if_pos z] at h
      exact br_f (by decide) ⟨vp_in_nI (by omega) (by omega), nm_e (nm_r (nI_1 i) (ih (i + 1) n _ hs.2 (by omega) (by omega) hR' h))⟩
    · rw [if_neg z] at h
      exact br_t rfl (nm_r (nI_1 i) (ih (i + 1) n f hs.2 (by omega) (by omega) hR' h))
/-- X's derived arrays as a picture has them -/
def pd_DG (G : Nat → pd_V) (pa : Nat → Int32) (L : List Nat) (tn : Int32) (tr se ab pl sz cs ce : Nat → Int32) : Prop :=
  tn = nI (pd_ord pa L).length ∧ pd_sg tr 0 (pd_ord pa L) ∧ ∀ w, (w = 0 ∨ w ∈ L) → pd_DA G se ab pl sz cs ce w
theorem px_wat {post : Int32 → Prop} {x y : Int32} {L : List Nat} {rk : Nat → Nat} {G : Nat → pd_V} (H : pd_BI a_there a_parents L rk) (hD : pd_DG G a_parents L f_treeSize a_tree a_seen a_able a_places a_sizes a_clipStarts a_clipEnds)
    (h : post (pd_fa G x y (pd_ord a_parents L) (-1))) : wpX_widgetAt post (f_stacked, f_treeSize, f_over, f_pressed, f_focus, f_waiting, f_noteCount, a_there, a_parents, a_kinds, a_colours, a_weights, a_gaps, a_layouts, a_values, a_effects, a_targets, a_visible, a_enabled, a_on, a_wishedPlaces, a_wishedSizes, a_shifts, a_stack, a_tree, a_seen, a_able, a_places, a_sizes, a_clipStarts, a_clipEnds, a_eventKinds, a_eventXs, a_eventYs, a_notes, a_pixels) x y := by
  obtain ⟨rfl, hs, hd⟩ := hD
  have hl := pd_ordL H
  exact ⟨(pd_ord a_parents L).length + 1, px_wat5 (G := G) hl H.2.1 hd (pd_ord a_parents L) 0 _ (-1) hs (by omega) (by omega) (fun w hw => (pd_ordM H w).mp hw) h⟩
theorem py_look19 {post : Int32 → SY → Prop} {x y : Int32} {N : Nat} {L : List Nat} {rk : Nat → Nat} {G : Nat → pd_V} (H : pd_BI a_there a_parents L rk) (hG : pd_LE a_parents a_wishedPlaces a_wishedSizes a_shifts a_visible a_enabled a_layouts a_gaps a_weights L G) (hN : N ≤ 12) (hA : ∀ w, (w = 0 ∨ w ∈ L) → pd_YA G b_left b_top b_width b_height w) :
    ∀ (R : List Nat) (i n : Nat) (f : Int32), pd_sg b_order i R → i + R.length = N → R.length < n → (∀ w, w ∈ R → w = 0 ∨ w ∈ L) → post (pd_fa G x y R f) (nI N, g_waiting, f_noteCount, f_over, f_pressed, f_focus, g_acted, a_there, a_kinds, (fun j => a_wishedPlaces (2 * j)), (fun j => a_wishedPlaces (2 * j + 1)), (fun j => a_wishedSizes (2 * j)), (fun j => a_wishedSizes (2 * j + 1)), a_colours, a_layouts, a_gaps, a_weights, (fun j => a_shifts (2 * j)), (fun j => a_shifts (2 * j + 1)), a_visible, a_enabled, a_on, a_values, a_parents, a_effects, a_targets, b_kids, b_kidCount, b_left, b_top, b_width, b_height, b_order, b_stack, a_pixels, b_events, a_notes) →
    wY_lookAt_19 post x y (nI N) g_waiting f_noteCount f_over f_pressed f_focus g_acted a_there a_kinds (fun j => a_wishedPlaces (2 * j)) (fun j => a_wishedPlaces (2 * j + 1)) (fun j => a_wishedSizes (2 * j)) (fun j => a_wishedSizes (2 * j + 1)) a_colours a_layouts a_gaps a_weights (fun j => a_shifts (2 * j)) (fun j => a_shifts (2 * j + 1)) a_visible a_enabled a_on a_values a_parents a_effects a_targets b_kids b_kidCount b_left b_top b_width b_height b_order b_stack a_pixels b_events a_notes n f (nI i) := by
  intro R
  induction R with
  | nil =>
    intro i n f _ hi hn _ h
    obtain ⟨n, rfl⟩ : ∃ m, n = m + 1 := ⟨n - 1, by omega⟩
    rw [wY_lookAt_19]
    have hi' : i = N := hi
    exact br_t (by rw [hi']; exact Int32.le_refl _) h
  | cons w R ih =>
    intro i n f hs hi hn hR h
    obtain ⟨n, rfl⟩ : ∃ m, n = m + 1 := ⟨n - 1, by omega⟩
    rw [List.length_cons] at hi hn
    have hw := hR w (List.mem_cons_self ..)
    have es : b_order (nI i).toNatClampNeg = nI w := by rw [pd_cl (by omega)]; exact hs.1
    have hR' : ∀ v, v ∈ R → v = 0 ∨ v ∈ L := fun v hv => hR v (List.mem_cons_of_mem _ hv)
    simp only [pd_fa] at h
    rw [wY_lookAt_19]
    dsimp only
    rw [es]
    refine br_f (nI_ge (by omega) (by omega)) ⟨vp_in_nI (by omega) (by omega), py_shows (G := G) H hG hA w hw (fun z => ?_) (fun z => ?_)⟩
    · rw [if_pos z] at h
      exact br_f (by decide) ⟨vp_in_nI (by omega) (by omega), nm_e (nm_r (nI_1 i) (ih (i + 1) n _ hs.2 (by omega) (by omega) hR' h))⟩
    · rw [if_neg z] at h
      exact br_t rfl (nm_r (nI_1 i) (ih (i + 1) n f hs.2 (by omega) (by omega) hR' h))
theorem pd_wiS {x g : Int32} {n : Nat} (hg : g = nI n) (hn : n < 2 ^ 30) (h0 : 0 ≤ x) (h1 : x < nI (n + 1)) : pd_wi x 0 g = 1 := by
  obtain ⟨j, hj, rfl⟩ := nI_of (x := x) (Int32.not_lt.mpr h0)
  rw [nI_ltI hj (by omega)] at h1
  unfold pd_wi
  rw [if_neg (nI_pos hj), hg, if_neg (nI_nlt (by omega) (by omega))]
theorem py_look {post : Int32 → SY → Prop} {x y : Int32} {L : List Nat} {rk : Nat → Nat} {G : Nat → pd_V} (H : pd_BI a_there a_parents L rk) (hK : pd_KD a_parents b_kidCount b_kids L) (hV : pd_VA a_wishedPlaces a_wishedSizes a_weights a_layouts a_targets a_shifts)
    (hG : pd_LE a_parents a_wishedPlaces a_wishedSizes a_shifts a_visible a_enabled a_layouts a_gaps a_weights L G)
    (h : ∀ mn od st lf tp wd hg, post (pd_fa G x y (pd_ord a_parents L) (-1)) (mn, g_waiting, f_noteCount, f_over, f_pressed, f_focus, g_acted, a_there, a_kinds, (fun j => a_wishedPlaces (2 * j)), (fun j => a_wishedPlaces (2 * j + 1)), (fun j => a_wishedSizes (2 * j)), (fun j => a_wishedSizes (2 * j + 1)), a_colours, a_layouts, a_gaps, a_weights, (fun j => a_shifts (2 * j)), (fun j => a_shifts (2 * j + 1)), a_visible, a_enabled, a_on, a_values, a_parents, a_effects, a_targets, b_kids, b_kidCount, lf, tp, wd, hg, od, st, a_pixels, b_events, a_notes)) : wpY_lookAt post (g_many, g_waiting, f_noteCount, f_over, f_pressed, f_focus, g_acted, a_there, a_kinds, (fun j => a_wishedPlaces (2 * j)), (fun j => a_wishedPlaces (2 * j + 1)), (fun j => a_wishedSizes (2 * j)), (fun j => a_wishedSizes (2 * j + 1)), a_colours, a_layouts, a_gaps, a_weights, (fun j => a_shifts (2 * j)), (fun j => a_shifts (2 * j + 1)), a_visible, a_enabled, a_on, a_values, a_parents, a_effects, a_targets, b_kids, b_kidCount, b_left, b_top, b_width, b_height, b_order, b_stack, a_pixels, b_events, a_notes) x y := by
  have hl := pd_ordL H
  have main : wpY_rectangles (fun u => match u with | (g_many1, g_waiting1, g_noteCount1, g_over1, g_pressed1, g_focus1, g_acted1, b_there1, b_kind1, b_wishX1, b_wishY1, b_wishW1, b_wishH1, b_colour1, b_layout1, b_gap1, b_weight1, b_shiftX1, b_shiftY1, b_visible1, b_enabled1, b_on1, b_value1, b_parent1, b_effects1, b_targets1, b_kids1, b_kidCount1, b_left1, b_top1, b_width1, b_height1, b_order1, b_stack1, b_pixels1, b_events1, b_notes1) => ∃ n19 : Nat, wY_lookAt_19 post x y g_many1 g_waiting1 g_noteCount1 g_over1 g_pressed1 g_focus1 g_acted1 b_there1 b_kind1 b_wishX1 b_wishY1 b_wishW1 b_wishH1 b_colour1 b_layout1 b_gap1 b_weight1 b_shiftX1 b_shiftY1 b_visible1 b_enabled1 b_on1 b_value1 b_parent1 b_effects1 b_targets1 b_kids1 b_kidCount1 b_left1 b_top1 b_width1 b_height1 b_order1 b_stack1 b_pixels1 b_events1 b_notes1 n19 (-1) 0) (g_many, g_waiting, f_noteCount, f_over, f_pressed, f_focus, g_acted, a_there, a_kinds, (fun j => a_wishedPlaces (2 * j)), (fun j => a_wishedPlaces (2 * j + 1)), (fun j => a_wishedSizes (2 * j)), (fun j => a_wishedSizes (2 * j + 1)), a_colours, a_layouts, a_gaps, a_weights, (fun j => a_shifts (2 * j)), (fun j => a_shifts (2 * j + 1)), a_visible, a_enabled, a_on, a_values, a_parents, a_effects, a_targets, b_kids, b_kidCount, b_left, b_top, b_width, b_height, b_order, b_stack, a_pixels, b_events, a_notes) := by
    refine py_rect (G := G) H hK hV hG (fun mn od st lf tp wd hg hO => ?_)
    obtain ⟨rfl, ho, hA⟩ := hO
    exact ⟨(pd_ord a_parents L).length + 1, py_look19 (G := G) H hG hl hA (pd_ord a_parents L) 0 _ (-1) ho (by omega) (by omega) (fun w hw => (pd_ordM H w).mp hw) (h _ od st lf tp wd hg)⟩
  have off : (pd_wi x 0 31 = 0 ∨ pd_wi y 0 15 = 0) → post (-1) (g_many, g_waiting, f_noteCount, f_over, f_pressed, f_focus, g_acted, a_there, a_kinds, (fun j => a_wishedPlaces (2 * j)), (fun j => a_wishedPlaces (2 * j + 1)), (fun j => a_wishedSizes (2 * j)), (fun j => a_wishedSizes (2 * j + 1)), a_colours, a_layouts, a_gaps, a_weights, (fun j => a_shifts (2 * j)), (fun j => a_shifts (2 * j + 1)), a_visible, a_enabled, a_on, a_values, a_parents, a_effects, a_targets, b_kids, b_kidCount, b_left, b_top, b_width, b_height, b_order, b_stack, a_pixels, b_events, a_notes) := by
    intro c
    have e : pd_fa G x y (pd_ord a_parents L) (-1) = -1 := by
      refine pd_faN _ _ (fun w hw hs => ?_)
      obtain ⟨⟨v0, v1, v2, v3⟩, _⟩ := hV
      obtain ⟨⟨a1, a2⟩, a3, a4⟩ := pd_off H hG v0 v1 v2 v3 ((pd_ordM H w).mp hw) hs
      rcases c with c | c
      · rw [pd_wiS (g := 31) (n := 31) rfl (by omega) a1 a2] at c; exact absurd c (by decide)
      · rw [pd_wiS (g := 15) (n := 15) rfl (by omega) a3 a4] at c; exact absurd c (by decide)
    have k := h g_many b_order b_stack b_left b_top b_width b_height
    rw [e] at k
    exact k
  unfold wpY_lookAt wpY_isPixel
  refine py_wi ?_
  by_cases a : pd_wi x 0 31 = 0
  · exact br_t a (br_t rfl (off (Or.inl a)))
  · refine br_f a (py_wi ?_)
    by_cases b : pd_wi y 0 15 = 0
    · exact br_t b (br_t rfl (off (Or.inr b)))
    · exact br_f b (br_f (by decide) main)
theorem px_cc4 {post : Int32 → Prop} {p N : Nat} (hp : p < 12) (hN : N ≤ 12) :
    ∀ (R : List Nat) (i n m : Nat), pd_sg a_stack i R → i + R.length = N → R.length < n → (∀ c, c ∈ R → c < 12) → post (nI (m + (pd_kd a_parents R p).length)) →
    wX_countChildren_4 post (nI p) (nI N) f_treeSize f_over f_pressed f_focus f_waiting f_noteCount a_there a_parents a_kinds a_colours a_weights a_gaps a_layouts a_values a_effects a_targets a_visible a_enabled a_on a_wishedPlaces a_wishedSizes a_shifts a_stack a_tree a_seen a_able a_places a_sizes a_clipStarts a_clipEnds a_eventKinds a_eventXs a_eventYs a_notes a_pixels n (nI m) (nI i) := by
  intro R
  induction R with
  | nil =>
    intro i n m _ hi hn _ h
    obtain ⟨n, rfl⟩ : ∃ m, n = m + 1 := ⟨n - 1, by omega⟩
    rw [wX_countChildren_4]
    have hi' : i = N := hi
    exact br_t (by rw [hi']; exact Int32.le_refl _) h
  | cons c R ih =>
    intro i n m hs hi hn hc h
    obtain ⟨n, rfl⟩ : ∃ m, n = m + 1 := ⟨n - 1, by omega⟩
    rw [List.length_cons] at hi hn
    have hc12 : c < 12 := hc c (List.mem_cons_self ..)
    have es : a_stack (nI i).toNatClampNeg = nI c := by rw [pd_cl (by omega)]; exact hs.1
    have hcR : ∀ d, d ∈ R → d < 12 := fun d hd => hc d (List.mem_cons_of_mem _ hd)
    rw [wX_countChildren_4]
    dsimp only
    rw [es, pd_cl (n := c) (by omega)]
    refine br_f (nI_ge (by omega) (by omega)) ⟨vp_in_nI (by omega) (by omega), vp_in_nI hc12 (by omega), ?_⟩
    by_cases e : a_parents c = nI p
    · rw [pd_kdy e, List.length_cons] at h
      exact br_t e (nm_r (nI_1 m) (nm_r (nI_1 i) (ih (i + 1) n (m + 1) hs.2 (by omega) (by omega) hcR (by rw [show m + 1 + (pd_kd a_parents R p).length = m + ((pd_kd a_parents R p).length + 1) by omega]; exact h))))
    · rw [pd_kdn e] at h
      exact br_f e (nm_r (nI_1 i) (ih (i + 1) n m hs.2 (by omega) (by omega) hcR h))
end PDO
theorem i_vc_screen {k : Nat} {u : SX} {v : SY} (I : i_Rel k u v) (hk : k + 8 ≤ 4096) : wpX_screen (fun r => wpY_screen (fun r' => r' = r ∧ i_Rel (k + 8) u v) v) u := by
  have I' : i_Rel (k + 8) u v := I
  obtain ⟨L, rk, M, D⟩ := I
  obtain ⟨f_stacked, f_treeSize, f_over, f_pressed, f_focus, f_waiting, f_noteCount, a_there, a_parents, a_kinds, a_colours, a_weights, a_gaps, a_layouts, a_values, a_effects, a_targets, a_visible, a_enabled, a_on, a_wishedPlaces, a_wishedSizes, a_shifts, a_stack, a_tree, a_seen, a_able, a_places, a_sizes, a_clipStarts, a_clipEnds, a_eventKinds, a_eventXs, a_eventYs, a_notes, a_pixels⟩ := u
  obtain ⟨g_many, g_waiting, g_acted, b_kids, b_kidCount, b_left, b_top, b_width, b_height, b_order, b_stack, b_events, rfl, hB, hS, hK, hV, ho, hpr, hf, hq⟩ := M
  obtain ⟨r, hX, hY⟩ := pd_scr4 (f_stacked := f_stacked) (f_treeSize := f_treeSize) (f_over := f_over) (f_pressed := f_pressed) (f_focus := f_focus) (f_waiting := f_waiting) (f_noteCount := f_noteCount) (a_there := a_there) (a_parents := a_parents) (a_kinds := a_kinds) (a_colours := a_colours) (a_weights := a_weights) (a_gaps := a_gaps) (a_layouts := a_layouts) (a_values := a_values) (a_effects := a_effects) (a_targets := a_targets) (a_visible := a_visible) (a_enabled := a_enabled) (a_on := a_on) (a_wishedPlaces := a_wishedPlaces) (a_wishedSizes := a_wishedSizes) (a_shifts := a_shifts) (a_stack := a_stack) (a_tree := a_tree) (a_seen := a_seen) (a_able := a_able) (a_places := a_places) (a_sizes := a_sizes) (a_clipStarts := a_clipStarts) (a_clipEnds := a_clipEnds) (a_eventKinds := a_eventKinds) (a_eventXs := a_eventXs) (a_eventYs := a_eventYs) (a_notes := a_notes) (a_pixels := a_pixels) (g_many := g_many) (g_waiting := g_waiting) (g_acted := g_acted) (b_kids := b_kids) (b_kidCount := b_kidCount) (b_left := b_left) (b_top := b_top) (b_width := b_width) (b_height := b_height) (b_order := b_order) (b_stack := b_stack) (b_events := b_events) 512 0 0 rfl
  exact ⟨513, hX _ ⟨513, hY _ ⟨rfl, I'⟩⟩⟩
end
section
theorem pd_wi_lo {x l g : Int32} (h : x < l) : pd_wi x l g = 0 := if_pos h
theorem pd_wi_hi {x l g : Int32} (h : ¬ x < l) (h2 : g < x) : pd_wi x l g = 0 := by unfold pd_wi; rw [if_neg h, if_pos h2]
theorem pd_wi_in {x l g : Int32} (h : ¬ x < l) (h2 : ¬ g < x) : ¬ pd_wi x l g = 0 := by unfold pd_wi; rw [if_neg h, if_neg h2]; decide
theorem i_vc_at {k : Nat} {u : SX} {v : SY} (I : i_Rel k u v) (hk : k + 8 ≤ 4096) (v1 : Int32) (v2 : Int32) : wpX_at (fun r => wpY_at (fun r' v' => r' = r ∧ i_Rel (k + 8) u v') v v1 v2) u v1 v2 := by
  obtain ⟨L, rk, M, D⟩ := I
  obtain ⟨f_stacked, f_treeSize, f_over, f_pressed, f_focus, f_waiting, f_noteCount, a_there, a_parents, a_kinds, a_colours, a_weights, a_gaps, a_layouts, a_values, a_effects, a_targets, a_visible, a_enabled, a_on, a_wishedPlaces, a_wishedSizes, a_shifts, a_stack, a_tree, a_seen, a_able, a_places, a_sizes, a_clipStarts, a_clipEnds, a_eventKinds, a_eventXs, a_eventYs, a_notes, a_pixels⟩ := u
  obtain ⟨g_many, g_waiting, g_acted, b_kids, b_kidCount, b_left, b_top, b_width, b_height, b_order, b_stack, b_events, rfl, hB, hS, hK, hV, ho, hpr, hf, hq⟩ := M
  obtain ⟨G, hG, hD⟩ := D
  have D' : pd_DX L (f_stacked, f_treeSize, f_over, f_pressed, f_focus, f_waiting, f_noteCount, a_there, a_parents, a_kinds, a_colours, a_weights, a_gaps, a_layouts, a_values, a_effects, a_targets, a_visible, a_enabled, a_on, a_wishedPlaces, a_wishedSizes, a_shifts, a_stack, a_tree, a_seen, a_able, a_places, a_sizes, a_clipStarts, a_clipEnds, a_eventKinds, a_eventXs, a_eventYs, a_notes, a_pixels) := ⟨G, hG, hD⟩
  have mk : ∀ mn od st lf tp wd hg, i_Rel (k + 8) (f_stacked, f_treeSize, f_over, f_pressed, f_focus, f_waiting, f_noteCount, a_there, a_parents, a_kinds, a_colours, a_weights, a_gaps, a_layouts, a_values, a_effects, a_targets, a_visible, a_enabled, a_on, a_wishedPlaces, a_wishedSizes, a_shifts, a_stack, a_tree, a_seen, a_able, a_places, a_sizes, a_clipStarts, a_clipEnds, a_eventKinds, a_eventXs, a_eventYs, a_notes, a_pixels) (mn, g_waiting, f_noteCount, f_over, f_pressed, f_focus, g_acted, a_there, a_kinds, (fun j => a_wishedPlaces (2 * j)), (fun j => a_wishedPlaces (2 * j + 1)), (fun j => a_wishedSizes (2 * j)), (fun j => a_wishedSizes (2 * j + 1)), a_colours, a_layouts, a_gaps, a_weights, (fun j => a_shifts (2 * j)), (fun j => a_shifts (2 * j + 1)), a_visible, a_enabled, a_on, a_values, a_parents, a_effects, a_targets, b_kids, b_kidCount, lf, tp, wd, hg, od, st, a_pixels, b_events, a_notes) := fun mn od st lf tp wd hg =>
    ⟨L, rk, ⟨mn, g_waiting, g_acted, b_kids, b_kidCount, lf, tp, wd, hg, od, st, b_events, rfl, hB, hS, hK, hV, ho, hpr, hf, hq⟩, D'⟩
  unfold wpX_at
  refine px_wat (G := G) hB hD ?_
  by_cases e : pd_fa G v1 v2 (pd_ord a_parents L) (-1) = -1
  · refine br_t e ?_
    unfold wpY_at
    exact py_look (G := G) hB hK hV hG (fun mn od st lf tp wd hg => ⟨e, mk mn od st lf tp wd hg⟩)
  · refine br_f e ?_
    unfold wpY_at
    exact py_look (G := G) hB hK hV hG (fun mn od st lf tp wd hg => ⟨rfl, mk mn od st lf tp wd hg⟩)
theorem i_vc_rectangle {k : Nat} {u : SX} {v : SY} (I : i_Rel k u v) (hk : k + 8 ≤ 4096) (v1 : Int32) (v2 : Int32) : wpX_rectangle (fun r => wpY_rectangle (fun r' v' => r' = r ∧ i_Rel (k + 8) u v') v v1 v2) u v1 v2 := by
  have I' : i_Rel (k + 8) u v := I
  obtain ⟨L, rk, M, D⟩ := I
  obtain ⟨f_stacked, f_treeSize, f_over, f_pressed, f_focus, f_waiting, f_noteCount, a_there, a_parents, a_kinds, a_colours, a_weights, a_gaps, a_layouts, a_values, a_effects, a_targets, a_visible, a_enabled, a_on, a_wishedPlaces, a_wishedSizes, a_shifts, a_stack, a_tree, a_seen, a_able, a_places, a_sizes, a_clipStarts, a_clipEnds, a_eventKinds, a_eventXs, a_eventYs, a_notes, a_pixels⟩ := u
  obtain ⟨g_many, g_waiting, g_acted, b_kids, b_kidCount, b_left, b_top, b_width, b_height, b_order, b_stack, b_events, rfl, hB, hS, hK, hV, ho, hpr, hf, hq⟩ := M
  obtain ⟨G, hG, hD⟩ := D
  have D' : pd_DX L (f_stacked, f_treeSize, f_over, f_pressed, f_focus, f_waiting, f_noteCount, a_there, a_parents, a_kinds, a_colours, a_weights, a_gaps, a_layouts, a_values, a_effects, a_targets, a_visible, a_enabled, a_on, a_wishedPlaces, a_wishedSizes, a_shifts, a_stack, a_tree, a_seen, a_able, a_places, a_sizes, a_clipStarts, a_clipEnds, a_eventKinds, a_eventXs, a_eventYs, a_notes, a_pixels) := ⟨G, hG, hD⟩
  have mk : ∀ mn od st lf tp wd hg, i_Rel (k + 8) (f_stacked, f_treeSize, f_over, f_pressed, f_focus, f_waiting, f_noteCount, a_there, a_parents, a_kinds, a_colours, a_weights, a_gaps, a_layouts, a_values, a_effects, a_targets, a_visible, a_enabled, a_on, a_wishedPlaces, a_wishedSizes, a_shifts, a_stack, a_tree, a_seen, a_able, a_places, a_sizes, a_clipStarts, a_clipEnds, a_eventKinds, a_eventXs, a_eventYs, a_notes, a_pixels) (mn, g_waiting, f_noteCount, f_over, f_pressed, f_focus, g_acted, a_there, a_kinds, (fun j => a_wishedPlaces (2 * j)), (fun j => a_wishedPlaces (2 * j + 1)), (fun j => a_wishedSizes (2 * j)), (fun j => a_wishedSizes (2 * j + 1)), a_colours, a_layouts, a_gaps, a_weights, (fun j => a_shifts (2 * j)), (fun j => a_shifts (2 * j + 1)), a_visible, a_enabled, a_on, a_values, a_parents, a_effects, a_targets, b_kids, b_kidCount, lf, tp, wd, hg, od, st, a_pixels, b_events, a_notes) := fun mn od st lf tp wd hg =>
    ⟨L, rk, ⟨mn, g_waiting, g_acted, b_kids, b_kidCount, lf, tp, wd, hg, od, st, b_events, rfl, hB, hS, hK, hV, ho, hpr, hf, hq⟩, D'⟩
  unfold wpX_rectangle
  refine px_is ?_
  by_cases c1 : pd_is a_there v1 = 0
  · refine br_t c1 ?_
    unfold wpY_rectangle
    exact py_is (br_t c1 ⟨rfl, I'⟩)
  · obtain ⟨w, hw, rfl, ht⟩ := pd_is1 c1
    have hwL := (hB.2.2.1 w hw).mp ht
    obtain ⟨hd, _⟩ := hD.2.2 w hwL
    have vw : vp_in (nI w) 12 := vp_in_nI hw (by omega)
    have cw : (nI w).toNatClampNeg = w := pd_cl (by omega)
    refine br_f c1 ?_
    by_cases a : v2 < 0
    · refine br_t a ?_
      unfold wpY_rectangle
      exact py_is (br_f c1 (py_wi (br_t (pd_wi_lo a) ⟨rfl, I'⟩)))
    · by_cases b : 3 < v2
      · refine br_f a (br_t b ?_)
        unfold wpY_rectangle
        exact py_is (br_f c1 (py_wi (br_t (pd_wi_hi a b) ⟨rfl, I'⟩)))
      · have cin := pd_wi_in a b
        obtain ⟨j, hj, rfl⟩ := nI_of2 (n := 3) (M := 3) (by decide) a (Int32.not_lt.mp b)
        refine br_f a (br_f b ?_)
        have hz : j = 0 ∨ j = 1 ∨ j = 2 ∨ j = 3 := by omega
        rcases hz with rfl | rfl | rfl | rfl
        · obtain ⟨vI, cI⟩ := px_ix hw (a := 0) (by omega)
          refine br_t (by decide) ⟨vI, ?_⟩
          rw [cI, (hd 0 (by omega)).1]
          unfold wpY_rectangle
          refine py_is (br_f c1 (py_wi (br_f cin (py_rect (G := G) hB hK hV hG (fun mn od st lf tp wd hg hO => br_t (by decide) ⟨vw, ?_, mk mn od st lf tp wd hg⟩)))))
          rw [cw]; exact (hO.2.2 w hwL).1
        · obtain ⟨vI, cI⟩ := px_ix hw (a := 1) (by omega)
          refine br_f (by decide) (br_t (by decide) ⟨vI, ?_⟩)
          rw [cI, (hd 1 (by omega)).1]
          unfold wpY_rectangle
          refine py_is (br_f c1 (py_wi (br_f cin (py_rect (G := G) hB hK hV hG (fun mn od st lf tp wd hg hO => br_f (by decide) (br_t (by decide) ⟨vw, ?_, mk mn od st lf tp wd hg⟩))))))
          rw [cw]; exact (hO.2.2 w hwL).2.1
        · have e2 : 2 * nI w + nI 2 - 2 = nI (2 * w + 0) := by rw [pd_22]; exact pd_sub (a := 2 * w + 2) (b := 2) (by omega)
          refine br_f (by decide) (br_f (by decide) (br_t (by decide) ⟨by rw [e2]; exact vp_in_nI (by omega) (by omega), ?_⟩))
          rw [e2, pd_cl (by omega), (hd 0 (by omega)).2.1]
          unfold wpY_rectangle
          refine py_is (br_f c1 (py_wi (br_f cin (py_rect (G := G) hB hK hV hG (fun mn od st lf tp wd hg hO => br_f (by decide) (br_f (by decide) (br_t (by decide) ⟨vw, ?_, mk mn od st lf tp wd hg⟩)))))))
          rw [cw]; exact (hO.2.2 w hwL).2.2.1
        · have e2 : 2 * nI w + nI 3 - 2 = nI (2 * w + 1) := by rw [pd_22]; exact pd_sub (a := 2 * w + 3) (b := 2) (by omega)
          refine br_f (by decide) (br_f (by decide) (br_f (by decide) (br_t (by decide) ⟨by rw [e2]; exact vp_in_nI (by omega) (by omega), ?_⟩)))
          rw [e2, pd_cl (by omega), (hd 1 (by omega)).2.1]
          unfold wpY_rectangle
          refine py_is (br_f c1 (py_wi (br_f cin (py_rect (G := G) hB hK hV hG (fun mn od st lf tp wd hg hO => br_f (by decide) (br_f (by decide) (br_f (by decide) ⟨vw, ?_, mk mn od st lf tp wd hg⟩)))))))
          rw [cw]; exact (hO.2.2 w hwL).2.2.2
theorem i_vc_state {k : Nat} {u : SX} {v : SY} (I : i_Rel k u v) (hk : k + 8 ≤ 4096) (v1 : Int32) (v2 : Int32) : wpX_state (fun r => wpY_state (fun r' => r' = r ∧ i_Rel (k + 8) u v) v v1 v2) u v1 v2 := by
  have I' : i_Rel (k + 8) u v := I
  obtain ⟨L, rk, M, D⟩ := I
  obtain ⟨f_stacked, f_treeSize, f_over, f_pressed, f_focus, f_waiting, f_noteCount, a_there, a_parents, a_kinds, a_colours, a_weights, a_gaps, a_layouts, a_values, a_effects, a_targets, a_visible, a_enabled, a_on, a_wishedPlaces, a_wishedSizes, a_shifts, a_stack, a_tree, a_seen, a_able, a_places, a_sizes, a_clipStarts, a_clipEnds, a_eventKinds, a_eventXs, a_eventYs, a_notes, a_pixels⟩ := u
  obtain ⟨g_many, g_waiting, g_acted, b_kids, b_kidCount, b_left, b_top, b_width, b_height, b_order, b_stack, b_events, rfl, hB, hS, hK, hV, ho, hpr, hf, hq⟩ := M
  obtain ⟨G, hG, hD⟩ := D
  unfold wpX_state
  refine px_is ?_
  by_cases c1 : pd_is a_there v1 = 0
  · refine br_t c1 ?_
    unfold wpY_state
    exact py_is (br_t c1 ⟨rfl, I'⟩)
  · obtain ⟨w, hw, rfl, ht⟩ := pd_is1 c1
    have hwL := (hB.2.2.1 w hw).mp ht
    obtain ⟨_, es, ea⟩ := hD.2.2 w hwL
    have vw : vp_in (nI w) 12 := vp_in_nI hw (by omega)
    have cw : (nI w).toNatClampNeg = w := pd_cl (by omega)
    refine br_f c1 ?_
    by_cases a : v2 < 0
    · refine br_t a ?_
      unfold wpY_state
      exact py_is (br_f c1 (py_wi (br_t (pd_wi_lo a) ⟨rfl, I'⟩)))
    · by_cases b : 5 < v2
      · refine br_f a (br_t b ?_)
        unfold wpY_state
        exact py_is (br_f c1 (py_wi (br_t (pd_wi_hi a b) ⟨rfl, I'⟩)))
      · have cin := pd_wi_in a b
        obtain ⟨j, hj, rfl⟩ := nI_of2 (n := 5) (M := 5) (by decide) a (Int32.not_lt.mp b)
        refine br_f a (br_f b ?_)
        have hz : j = 0 ∨ j = 1 ∨ j = 2 ∨ j = 3 ∨ j = 4 ∨ j = 5 := by omega
        rcases hz with rfl | rfl | rfl | rfl | rfl | rfl
        · refine br_t (by decide) ⟨vw, ?_⟩
          unfold wpY_state
          exact py_is (br_f c1 (py_wi (br_f cin (br_t (by decide) ⟨vw, rfl, I'⟩))))
        · refine br_f (by decide) (br_t (by decide) ⟨vw, ?_⟩)
          by_cases c : a_on (nI w).toNatClampNeg = 0
          · refine br_t c ?_
            unfold wpY_state
            exact py_is (br_f c1 (py_wi (br_f cin (br_f (by decide) (br_t (by decide) (br_t (by decide) ⟨vw, br_t c ⟨rfl, I'⟩⟩))))))
          · refine br_f c ?_
            unfold wpY_state
            exact py_is (br_f c1 (py_wi (br_f cin (br_f (by decide) (br_t (by decide) (br_t (by decide) ⟨vw, br_f c ⟨rfl, I'⟩⟩))))))
        · refine br_f (by decide) (br_f (by decide) (br_t (by decide) ⟨vw, ?_⟩))
          rw [cw, es]
          by_cases c : (G w).2.2.1 = 0
          · refine br_t c ?_
            unfold wpY_state
            exact py_is (br_f c1 (py_wi (br_f cin (br_f (by decide) (br_t (by decide) (br_f (by decide) (br_t (by decide) (py_seen (G := G) hB hG w hwL (fun z => absurd c z) (fun _ => br_t rfl ⟨rfl, I'⟩)))))))))
          · refine br_f c ?_
            unfold wpY_state
            exact py_is (br_f c1 (py_wi (br_f cin (br_f (by decide) (br_t (by decide) (br_f (by decide) (br_t (by decide) (py_seen (G := G) hB hG w hwL (fun _ => br_f (by decide) ⟨rfl, I'⟩) (fun z => absurd z c)))))))))
        · refine br_f (by decide) (br_f (by decide) (br_f (by decide) (br_t (by decide) ⟨vw, ?_⟩)))
          rw [cw, ea]
          by_cases c : (G w).2.2.2.1 = 0
          · refine br_t c ?_
            unfold wpY_state
            exact py_is (br_f c1 (py_wi (br_f cin (br_f (by decide) (br_t (by decide) (br_f (by decide) (br_f (by decide) (py_able (G := G) hB hG w hwL (fun z => absurd c z) (fun _ => br_t rfl ⟨rfl, I'⟩)))))))))
          · refine br_f c ?_
            unfold wpY_state
            exact py_is (br_f c1 (py_wi (br_f cin (br_f (by decide) (br_t (by decide) (br_f (by decide) (br_f (by decide) (py_able (G := G) hB hG w hwL (fun _ => br_f (by decide) ⟨rfl, I'⟩) (fun z => absurd z c)))))))))
        · refine br_f (by decide) (br_f (by decide) (br_f (by decide) (br_f (by decide) (br_t (by decide) ⟨vw, ?_⟩))))
          unfold wpY_state
          exact py_is (br_f c1 (py_wi (br_f cin (br_f (by decide) (br_f (by decide) (br_t (by decide) ⟨vw, rfl, I'⟩))))))
        · obtain ⟨rfl, hs⟩ := hS
          have hL := pd_len11 hB.1 hB.2.1
          refine br_f (by decide) (br_f (by decide) (br_f (by decide) (br_f (by decide) (br_f (by decide) (br_t (by decide) ⟨L.length + 1, px_cc4 hw (N := L.length) (by omega) L 0 (L.length + 1) 0 hs (by omega) (by omega) (fun c hc => (hB.2.1 c hc).2) ?_⟩)))))
          unfold wpY_state
          refine py_is (br_f c1 (py_wi (br_f cin (br_f (by decide) (br_f (by decide) (br_f (by decide) ⟨vw, ?_, I'⟩))))))
          rw [cw, Nat.zero_add]; exact (hK w hwL).1
theorem i_vc_effect {k : Nat} {u : SX} {v : SY} (I : i_Rel k u v) (hk : k + 8 ≤ 4096) (v1 : Int32) (v2 : Int32) (v3 : Int32) : wpX_effect (fun r u' => wpY_effect (fun r' v' => r' = r ∧ i_Rel (k + 8) u' v') v v1 v2 v3) u v1 v2 v3 := by
  have I' : i_Rel (k + 8) u v := I
  obtain ⟨L, rk, M, D⟩ := I
  obtain ⟨f_stacked, f_treeSize, f_over, f_pressed, f_focus, f_waiting, f_noteCount, a_there, a_parents, a_kinds, a_colours, a_weights, a_gaps, a_layouts, a_values, a_effects, a_targets, a_visible, a_enabled, a_on, a_wishedPlaces, a_wishedSizes, a_shifts, a_stack, a_tree, a_seen, a_able, a_places, a_sizes, a_clipStarts, a_clipEnds, a_eventKinds, a_eventXs, a_eventYs, a_notes, a_pixels⟩ := u
  obtain ⟨g_many, g_waiting, g_acted, b_kids, b_kidCount, b_left, b_top, b_width, b_height, b_order, b_stack, b_events, rfl, hB, hS, hK, hV, ho, hpr, hf, hq⟩ := M
  have D0 : pd_DE a_parents a_wishedPlaces a_wishedSizes a_shifts a_visible a_enabled a_layouts a_gaps a_weights L f_treeSize a_tree a_seen a_able a_places a_sizes a_clipStarts a_clipEnds := D
  unfold wpX_effect
  refine px_is ?_
  by_cases c1 : pd_is a_there v1 = 0
  · refine br_t c1 ?_
    unfold wpY_effect
    exact py_is (br_t c1 ⟨rfl, I'⟩)
  · refine br_f c1 (px_wi ?_)
    by_cases c2 : pd_wi v2 0 6 = 0
    · refine br_t c2 ?_
      unfold wpY_effect
      exact py_is (br_f c1 (py_wi (br_t c2 ⟨rfl, I'⟩)))
    · refine br_f c2 (px_wi ?_)
      by_cases c3 : pd_wi v3 0 11 = 0
      · refine br_t c3 ?_
        unfold wpY_effect
        exact py_is (br_f c1 (py_wi (br_f c2 (py_wi (br_t c3 ⟨rfl, I'⟩)))))
      · obtain ⟨w, hw, rfl, ht⟩ := pd_is1 c1
        obtain ⟨t, ht2, rfl⟩ := pd_wiN (n := 11) (by decide) c3
        have vw : vp_in (nI w) 12 := vp_in_nI hw (by omega)
        have cw : (nI w).toNatClampNeg = w := pd_cl (by omega)
        refine br_f c3 ⟨vw, nm_r (e' := upd a_effects w v2) (by rw [cw]) ⟨vw, nm_r (e' := upd a_targets w (nI t)) (by rw [cw]) ?_⟩⟩
        unfold wpY_effect
        refine py_is (br_f c1 (py_wi (br_f c2 (py_wi (br_f c3 ⟨vw, nm_r (e' := upd a_effects w v2) (by rw [cw]) ⟨vw, nm_r (e' := upd a_targets w (nI t)) (by rw [cw]) ⟨rfl, ?_⟩⟩⟩)))))
        exact ⟨L, rk, ⟨g_many, g_waiting, g_acted, b_kids, b_kidCount, b_left, b_top, b_width, b_height, b_order, b_stack, b_events, rfl, hB, hS, hK, ⟨hV.1, hV.2.1, hV.2.2.1, pd_uP (P := fun x => ∃ k, k < 12 ∧ x = nI k) hV.2.2.2.1 ⟨t, by omega, rfl⟩, hV.2.2.2.2⟩, ho, hpr, hf, hq⟩, D0⟩
end
section
section PDQ
variable {f_stacked f_treeSize f_over f_pressed f_focus f_waiting f_noteCount : Int32} {a_there a_parents a_kinds a_colours a_weights a_gaps a_layouts a_values a_effects a_targets a_visible a_enabled a_on a_wishedPlaces a_wishedSizes a_shifts a_stack a_tree a_seen a_able a_places a_sizes a_clipStarts a_clipEnds a_eventKinds a_eventXs a_eventYs a_notes a_pixels : Nat → Int32}
/-! Y: X: the stack -/
theorem px_uns4 {post : SX → Prop} {w N : Nat} (hw : w < 12) (hN : N ≤ 12) :
    ∀ (R A : List Nat) (i n : Nat) (st : Nat → Int32), pd_sg st 0 A → pd_sg st i R → A.length ≤ i → i + R.length = N → R.length < n → (∀ c, c ∈ R → c < 12) →
    (∀ st', pd_sg st' 0 (A ++ pd_rm R w) → post (nI (A ++ pd_rm R w).length, f_treeSize, f_over, f_pressed, f_focus, f_waiting, f_noteCount, a_there, a_parents, a_kinds, a_colours, a_weights, a_gaps, a_layouts, a_values, a_effects, a_targets, a_visible, a_enabled, a_on, a_wishedPlaces, a_wishedSizes, a_shifts, st', a_tree, a_seen, a_able, a_places, a_sizes, a_clipStarts, a_clipEnds, a_eventKinds, a_eventXs, a_eventYs, a_notes, a_pixels)) →
    wX_unstack_4 post (nI w) (nI N) f_treeSize f_over f_pressed f_focus f_waiting f_noteCount n (nI A.length) (nI i) a_there a_parents a_kinds a_colours a_weights a_gaps a_layouts a_values a_effects a_targets a_visible a_enabled a_on a_wishedPlaces a_wishedSizes a_shifts st a_tree a_seen a_able a_places a_sizes a_clipStarts a_clipEnds a_eventKinds a_eventXs a_eventYs a_notes a_pixels := by
  intro R
  induction R with
  | nil =>
    intro A i n st hA _ hl hi hn _ h
    obtain ⟨n, rfl⟩ : ∃ m, n = m + 1 := ⟨n - 1, by omega⟩
    rw [wX_unstack_4]
    have hi' : i = N := hi
    refine br_t (by rw [hi']; exact Int32.le_refl _) ?_
    have e : A ++ pd_rm [] w = A := by simp [pd_rm]
    rw [e] at h
    exact h st hA
  | cons c R ih =>
    intro A i n st hA hR hl hi hn hc h
    obtain ⟨n, rfl⟩ : ∃ m, n = m + 1 := ⟨n - 1, by omega⟩
    rw [List.length_cons] at hi hn
    have hc12 : c < 12 := hc c (List.mem_cons_self ..)
    have hcR : ∀ d, d ∈ R → d < 12 := fun d hd => hc d (List.mem_cons_of_mem _ hd)
    have es : st (nI i).toNatClampNeg = nI c := by rw [pd_cl (by omega)]; exact hR.1
    rw [wX_unstack_4]
    dsimp only
    rw [es]
    refine br_f (nI_ge (by omega) (by omega)) ⟨vp_in_nI (by omega) (by omega), ?_⟩
    by_cases e : c = w
    · subst e
      have er : pd_rm (c :: R) c = pd_rm R c := by unfold pd_rm; simp
      rw [er] at h
      exact br_t rfl (nm_r (nI_1 i) (ih A (i + 1) n st hA hR.2 (by omega) (by omega) (by omega) hcR h))
    · have er : pd_rm (c :: R) w = c :: pd_rm R w := by unfold pd_rm; simp [e]
      rw [er] at h
      have k := pd_cmp (b := 0) (i := i) hA (by rw [Nat.zero_add]; exact hR) hl
      simp only [Nat.zero_add] at k
      obtain ⟨s1, s2⟩ := k
      have hne : ¬ nI c = nI w := fun z => e (pd_im z (by omega) (by omega))
      refine br_f hne ⟨vp_in_nI (by omega) (by omega), vp_in_nI (by omega) (by omega), nm_r (e' := upd st A.length (nI c)) (by rw [pd_cl (by omega)]) (nm_r (nI_1 A.length) (nm_r (nI_1 i) ?_))⟩
      have k := ih (A ++ [c]) (i + 1) n _ s1 s2 (by rw [List.length_append, List.length_singleton]; omega) (by omega) (by omega) hcR (by simpa using h)
      rw [List.length_append, List.length_singleton] at k
      exact k
theorem px_uns {post : SX → Prop} {w : Nat} {L : List Nat} (hw : w < 12) (hST : pd_ST f_stacked a_stack L) (hl : L.length ≤ 11) (hc : ∀ c, c ∈ L → c < 12)
    (h : ∀ n st, pd_ST n st (pd_rm L w) → post (n, f_treeSize, f_over, f_pressed, f_focus, f_waiting, f_noteCount, a_there, a_parents, a_kinds, a_colours, a_weights, a_gaps, a_layouts, a_values, a_effects, a_targets, a_visible, a_enabled, a_on, a_wishedPlaces, a_wishedSizes, a_shifts, st, a_tree, a_seen, a_able, a_places, a_sizes, a_clipStarts, a_clipEnds, a_eventKinds, a_eventXs, a_eventYs, a_notes, a_pixels)) : wpX_unstack post (f_stacked, f_treeSize, f_over, f_pressed, f_focus, f_waiting, f_noteCount, a_there, a_parents, a_kinds, a_colours, a_weights, a_gaps, a_layouts, a_values, a_effects, a_targets, a_visible, a_enabled, a_on, a_wishedPlaces, a_wishedSizes, a_shifts, a_stack, a_tree, a_seen, a_able, a_places, a_sizes, a_clipStarts, a_clipEnds, a_eventKinds, a_eventXs, a_eventYs, a_notes, a_pixels) (nI w) := by
  obtain ⟨rfl, hs⟩ := hST
  exact ⟨L.length + 1, px_uns4 hw (N := L.length) (by omega) L [] 0 _ a_stack trivial hs (by simp) (by omega) (by omega) hc (fun st' hs' => h _ st' ⟨rfl, hs'⟩)⟩
theorem px_puth {post : SX → Prop} {w : Nat} {L : List Nat} (hST : pd_ST f_stacked a_stack L) (hl : L.length ≤ 11)
    (h : ∀ n st, pd_ST n st (L ++ [w]) → post (n, f_treeSize, f_over, f_pressed, f_focus, f_waiting, f_noteCount, a_there, a_parents, a_kinds, a_colours, a_weights, a_gaps, a_layouts, a_values, a_effects, a_targets, a_visible, a_enabled, a_on, a_wishedPlaces, a_wishedSizes, a_shifts, st, a_tree, a_seen, a_able, a_places, a_sizes, a_clipStarts, a_clipEnds, a_eventKinds, a_eventXs, a_eventYs, a_notes, a_pixels)) : wpX_putHighest post (f_stacked, f_treeSize, f_over, f_pressed, f_focus, f_waiting, f_noteCount, a_there, a_parents, a_kinds, a_colours, a_weights, a_gaps, a_layouts, a_values, a_effects, a_targets, a_visible, a_enabled, a_on, a_wishedPlaces, a_wishedSizes, a_shifts, a_stack, a_tree, a_seen, a_able, a_places, a_sizes, a_clipStarts, a_clipEnds, a_eventKinds, a_eventXs, a_eventYs, a_notes, a_pixels) (nI w) := by
  obtain ⟨rfl, hs⟩ := hST
  refine ⟨vp_in_nI (by omega) (by omega), nm_r (e' := upd a_stack L.length (nI w)) (by rw [pd_cl (by omega)]) (nm_r (nI_1 _) (h _ _ ⟨?_, pd_sg_e hs⟩))⟩
  rw [List.length_append, List.length_singleton]
theorem px_putl {post : SX → Prop} {w : Nat} {L : List Nat} (hST : pd_ST f_stacked a_stack L) (hl : L.length ≤ 11)
    (h : ∀ n st, pd_ST n st (w :: L) → post (n, f_treeSize, f_over, f_pressed, f_focus, f_waiting, f_noteCount, a_there, a_parents, a_kinds, a_colours, a_weights, a_gaps, a_layouts, a_values, a_effects, a_targets, a_visible, a_enabled, a_on, a_wishedPlaces, a_wishedSizes, a_shifts, st, a_tree, a_seen, a_able, a_places, a_sizes, a_clipStarts, a_clipEnds, a_eventKinds, a_eventXs, a_eventYs, a_notes, a_pixels)) : wpX_putLowest post (f_stacked, f_treeSize, f_over, f_pressed, f_focus, f_waiting, f_noteCount, a_there, a_parents, a_kinds, a_colours, a_weights, a_gaps, a_layouts, a_values, a_effects, a_targets, a_visible, a_enabled, a_on, a_wishedPlaces, a_wishedSizes, a_shifts, a_stack, a_tree, a_seen, a_able, a_places, a_sizes, a_clipStarts, a_clipEnds, a_eventKinds, a_eventXs, a_eventYs, a_notes, a_pixels) (nI w) := by
  obtain ⟨rfl, hs⟩ := hST
  have go : ∀ (d n : Nat), d ≤ L.length → d < n → wX_putLowest_5 post (nI w) (nI L.length) f_treeSize f_over f_pressed f_focus f_waiting f_noteCount n (nI d) a_there a_parents a_kinds a_colours a_weights a_gaps a_layouts a_values a_effects a_targets a_visible a_enabled a_on a_wishedPlaces a_wishedSizes a_shifts (pd_H a_stack L.length d) a_tree a_seen a_able a_places a_sizes a_clipStarts a_clipEnds a_eventKinds a_eventXs a_eventYs a_notes a_pixels := by
    intro d
    induction d with
    | zero =>
      intro n _ hn
      obtain ⟨n, rfl⟩ : ∃ m, n = m + 1 := ⟨n - 1, by omega⟩
      rw [wX_putLowest_5]
      refine br_t (Int32.le_refl _) (nm_r (e' := upd (pd_H a_stack L.length 0) 0 (nI w)) rfl (nm_r (nI_1 _) (h _ _ ⟨by rw [List.length_cons], ?_⟩)))
      have k := pd_Hsg (A := []) (B := L) (w := w) hs
      simp only [List.length_nil, Nat.zero_add, List.nil_append] at k
      exact k
    | succ d ih =>
      intro n hd hn
      obtain ⟨n, rfl⟩ : ∃ m, n = m + 1 := ⟨n - 1, by omega⟩
      rw [wX_putLowest_5]
      have e1 : nI (d + 1) - 1 = nI d := nI_pred d
      refine br_f (nI_nle (by omega) (by omega)) ⟨by rw [e1]; exact vp_in_nI (by omega) (by omega), vp_in_nI (by omega) (by omega), nm_r (e' := pd_H a_stack L.length d) ?_ (nm_r (pd_m1 d) (ih n (by omega) (by omega)))⟩
      rw [e1, pd_cl (by omega), pd_cl (by omega), pd_Hg']
      exact pd_H1 a_stack (by omega)
  have k := go L.length (L.length + 1) (Nat.le_refl _) (by omega)
  rw [pd_H0] at k
  exact ⟨L.length + 1, k⟩
theorem px_raise {post : SX → Prop} {w : Nat} {L : List Nat} (hw : w < 12) (hw0 : 0 < w) (hST : pd_ST f_stacked a_stack L) (hl : L.length ≤ 11) (hc : ∀ c, c ∈ L → c < 12)
    (h : ∀ n st, pd_ST n st (pd_rm L w ++ [w]) → post (n, f_treeSize, f_over, f_pressed, f_focus, f_waiting, f_noteCount, a_there, a_parents, a_kinds, a_colours, a_weights, a_gaps, a_layouts, a_values, a_effects, a_targets, a_visible, a_enabled, a_on, a_wishedPlaces, a_wishedSizes, a_shifts, st, a_tree, a_seen, a_able, a_places, a_sizes, a_clipStarts, a_clipEnds, a_eventKinds, a_eventXs, a_eventYs, a_notes, a_pixels)) : wpX_raise post (f_stacked, f_treeSize, f_over, f_pressed, f_focus, f_waiting, f_noteCount, a_there, a_parents, a_kinds, a_colours, a_weights, a_gaps, a_layouts, a_values, a_effects, a_targets, a_visible, a_enabled, a_on, a_wishedPlaces, a_wishedSizes, a_shifts, a_stack, a_tree, a_seen, a_able, a_places, a_sizes, a_clipStarts, a_clipEnds, a_eventKinds, a_eventXs, a_eventYs, a_notes, a_pixels) (nI w) := by
  have hr : (pd_rm L w).length ≤ 11 := Nat.le_trans (List.length_filter_le _ _) hl
  exact br_f (nI_ne0 hw0 (by omega)) (px_uns hw hST hl hc (fun n st h1 => px_puth h1 hr h))
theorem px_lower {post : SX → Prop} {w : Nat} {L : List Nat} (hw : w < 12) (hw0 : 0 < w) (hST : pd_ST f_stacked a_stack L) (hl : L.length ≤ 11) (hc : ∀ c, c ∈ L → c < 12)
    (h : ∀ n st, pd_ST n st (w :: pd_rm L w) → post (n, f_treeSize, f_over, f_pressed, f_focus, f_waiting, f_noteCount, a_there, a_parents, a_kinds, a_colours, a_weights, a_gaps, a_layouts, a_values, a_effects, a_targets, a_visible, a_enabled, a_on, a_wishedPlaces, a_wishedSizes, a_shifts, st, a_tree, a_seen, a_able, a_places, a_sizes, a_clipStarts, a_clipEnds, a_eventKinds, a_eventXs, a_eventYs, a_notes, a_pixels)) : wpX_lower post (f_stacked, f_treeSize, f_over, f_pressed, f_focus, f_waiting, f_noteCount, a_there, a_parents, a_kinds, a_colours, a_weights, a_gaps, a_layouts, a_values, a_effects, a_targets, a_visible, a_enabled, a_on, a_wishedPlaces, a_wishedSizes, a_shifts, a_stack, a_tree, a_seen, a_able, a_places, a_sizes, a_clipStarts, a_clipEnds, a_eventKinds, a_eventXs, a_eventYs, a_notes, a_pixels) (nI w) := by
  have hr : (pd_rm L w).length ≤ 11 := Nat.le_trans (List.length_filter_le _ _) hl
  exact br_f (nI_ne0 hw0 (by omega)) (px_uns hw hST hl hc (fun n st h1 => px_putl h1 hr h))
theorem px_begin {post : SX → Prop} {w : Nat} {p1 p2 p3 : Int32} (hw : w < 12)
    (h : post (f_stacked, f_treeSize, f_over, f_pressed, f_focus, f_waiting, f_noteCount, upd a_there w 1, upd a_parents w p1, upd a_kinds w p2, upd a_colours w p3, upd a_weights w 0, upd a_gaps w 0, upd a_layouts w 0, upd a_values w 0, upd a_effects w 0, upd a_targets w 0, upd a_visible w 1, upd a_enabled w 1, upd a_on w 0, a_wishedPlaces, a_wishedSizes, upd (upd a_shifts (2 * w) 0) (2 * w + 1) 0, a_stack, a_tree, a_seen, a_able, a_places, a_sizes, a_clipStarts, a_clipEnds, a_eventKinds, a_eventXs, a_eventYs, a_notes, a_pixels)) :
    wpX_begin post (f_stacked, f_treeSize, f_over, f_pressed, f_focus, f_waiting, f_noteCount, a_there, a_parents, a_kinds, a_colours, a_weights, a_gaps, a_layouts, a_values, a_effects, a_targets, a_visible, a_enabled, a_on, a_wishedPlaces, a_wishedSizes, a_shifts, a_stack, a_tree, a_seen, a_able, a_places, a_sizes, a_clipStarts, a_clipEnds, a_eventKinds, a_eventXs, a_eventYs, a_notes, a_pixels) (nI w) p1 p2 p3 := by
  have v : vp_in (nI w) 12 := vp_in_nI hw (by omega)
  have c : (nI w).toNatClampNeg = w := pd_cl (by omega)
  have v0 : vp_in (2 * nI w) 24 := by rw [pd_2]; exact vp_in_nI (by omega) (by omega)
  have c0 : (2 * nI w).toNatClampNeg = 2 * w := by rw [pd_2]; exact pd_cl (by omega)
  have v1 : vp_in (2 * nI w + 1) 24 := by rw [pd_21]; exact vp_in_nI (by omega) (by omega)
  have c1 : (2 * nI w + 1).toNatClampNeg = 2 * w + 1 := by rw [pd_21]; exact pd_cl (by omega)
  unfold wpX_begin
  rw [c, c0, c1, pd_b0, pd_b1]
  exact ⟨v, nm_e ⟨v, nm_e ⟨v, nm_e ⟨v, nm_e ⟨v, nm_e ⟨v, nm_e ⟨v, nm_e ⟨v, nm_e ⟨v, nm_e ⟨v, nm_e ⟨v, nm_e ⟨v, nm_e ⟨v, nm_e ⟨v0, nm_e ⟨v1, nm_e h⟩⟩⟩⟩⟩⟩⟩⟩⟩⟩⟩⟩⟩⟩⟩
theorem px_setw {post : SX → Prop} {w : Nat} {x y a b : Int32} (hw : w < 12)
    (h : post (f_stacked, f_treeSize, f_over, f_pressed, f_focus, f_waiting, f_noteCount, a_there, a_parents, a_kinds, a_colours, a_weights, a_gaps, a_layouts, a_values, a_effects, a_targets, a_visible, a_enabled, a_on, upd (upd a_wishedPlaces (2 * w) x) (2 * w + 1) y, upd (upd a_wishedSizes (2 * w) a) (2 * w + 1) b, a_shifts, a_stack, a_tree, a_seen, a_able, a_places, a_sizes, a_clipStarts, a_clipEnds, a_eventKinds, a_eventXs, a_eventYs, a_notes, a_pixels)) :
    wpX_setWish post (f_stacked, f_treeSize, f_over, f_pressed, f_focus, f_waiting, f_noteCount, a_there, a_parents, a_kinds, a_colours, a_weights, a_gaps, a_layouts, a_values, a_effects, a_targets, a_visible, a_enabled, a_on, a_wishedPlaces, a_wishedSizes, a_shifts, a_stack, a_tree, a_seen, a_able, a_places, a_sizes, a_clipStarts, a_clipEnds, a_eventKinds, a_eventXs, a_eventYs, a_notes, a_pixels) (nI w) x y a b := by
  have v0 : vp_in (2 * nI w) 24 := by rw [pd_2]; exact vp_in_nI (by omega) (by omega)
  have c0 : (2 * nI w).toNatClampNeg = 2 * w := by rw [pd_2]; exact pd_cl (by omega)
  have v1 : vp_in (2 * nI w + 1) 24 := by rw [pd_21]; exact vp_in_nI (by omega) (by omega)
  have c1 : (2 * nI w + 1).toNatClampNeg = 2 * w + 1 := by rw [pd_21]; exact pd_cl (by omega)
  unfold wpX_setWish
  rw [c0, c1]
  exact ⟨v0, nm_e ⟨v1, nm_e ⟨v0, nm_e ⟨v1, nm_e h⟩⟩⟩⟩
end PDQ
section PDQ2
variable {g_many g_waiting g_noteCount g_over g_pressed g_focus g_acted : Int32} {b_there b_kind b_wishX b_wishY b_wishW b_wishH b_colour b_layout b_gap b_weight b_shiftX b_shiftY b_visible b_enabled b_on b_value b_parent b_effects b_targets b_kids b_kidCount b_left b_top b_width b_height b_order b_stack b_pixels b_events b_notes : Nat → Int32}
theorem py_begin {post : SY → Prop} {w : Nat} {p1 p2 : Int32} (hw : w < 12)
    (h : post (g_many, g_waiting, g_noteCount, g_over, g_pressed, g_focus, g_acted, b_there, upd b_kind w p1, b_wishX, b_wishY, b_wishW, b_wishH, upd b_colour w p2, upd b_layout w 0, upd b_gap w 0, upd b_weight w 0, upd b_shiftX w 0, upd b_shiftY w 0, upd b_visible w 1, upd b_enabled w 1, upd b_on w 0, upd b_value w 0, b_parent, upd b_effects w 0, upd b_targets w 0, b_kids, upd b_kidCount w 0, b_left, b_top, b_width, b_height, b_order, b_stack, b_pixels, b_events, b_notes)) :
    wpY_begin post (g_many, g_waiting, g_noteCount, g_over, g_pressed, g_focus, g_acted, b_there, b_kind, b_wishX, b_wishY, b_wishW, b_wishH, b_colour, b_layout, b_gap, b_weight, b_shiftX, b_shiftY, b_visible, b_enabled, b_on, b_value, b_parent, b_effects, b_targets, b_kids, b_kidCount, b_left, b_top, b_width, b_height, b_order, b_stack, b_pixels, b_events, b_notes) (nI w) p1 p2 := by
  have v : vp_in (nI w) 12 := vp_in_nI hw (by omega)
  have c : (nI w).toNatClampNeg = w := pd_cl (by omega)
  unfold wpY_begin
  rw [c, pd_b0, pd_b1]
  exact ⟨v, nm_e ⟨v, nm_e ⟨v, nm_e ⟨v, nm_e ⟨v, nm_e ⟨v, nm_e ⟨v, nm_e ⟨v, nm_e ⟨v, nm_e ⟨v, nm_e ⟨v, nm_e ⟨v, nm_e ⟨v, nm_e ⟨v, nm_e h⟩⟩⟩⟩⟩⟩⟩⟩⟩⟩⟩⟩⟩⟩
theorem py_place {post : SY → Prop} {w : Nat} {x y a b : Int32} (hw : w < 12)
    (h : post (g_many, g_waiting, g_noteCount, g_over, g_pressed, g_focus, g_acted, b_there, b_kind, upd b_wishX w x, upd b_wishY w y, upd b_wishW w a, upd b_wishH w b, b_colour, b_layout, b_gap, b_weight, b_shiftX, b_shiftY, b_visible, b_enabled, b_on, b_value, b_parent, b_effects, b_targets, b_kids, b_kidCount, b_left, b_top, b_width, b_height, b_order, b_stack, b_pixels, b_events, b_notes)) : wpY_place post (g_many, g_waiting, g_noteCount, g_over, g_pressed, g_focus, g_acted, b_there, b_kind, b_wishX, b_wishY, b_wishW, b_wishH, b_colour, b_layout, b_gap, b_weight, b_shiftX, b_shiftY, b_visible, b_enabled, b_on, b_value, b_parent, b_effects, b_targets, b_kids, b_kidCount, b_left, b_top, b_width, b_height, b_order, b_stack, b_pixels, b_events, b_notes) (nI w) x y a b := by
  have v : vp_in (nI w) 12 := vp_in_nI hw (by omega)
  have c : (nI w).toNatClampNeg = w := pd_cl (by omega)
  unfold wpY_place
  rw [c]
  exact ⟨v, nm_e ⟨v, nm_e ⟨v, nm_e ⟨v, nm_e h⟩⟩⟩⟩
end PDQ2
/-! what the kids become -/
theorem pd_KDf {ki ki' : Nat → Int32} {p q : Nat} {K : List Nat} (hq : q ≠ p) (hl : K.length ≤ 12) (hf : ∀ j, (j < 12 * p ∨ 12 * p + 12 ≤ j) → ki' j = ki j) (h : pd_sg ki (12 * q) K) : pd_sg ki' (12 * q) K :=
  pd_sg_c K (12 * q) h (fun j h1 h2 => hf j (by omega))
theorem pd_KDr {pa kc ki ki' : Nat → Int32} {L L' : List Nat} {p : Nat} {n : Int32} (hN : L'.length ≤ 11) (hM : ∀ x, x ∈ L' ↔ x ∈ L) (hK : pd_KD pa kc ki L) (hf : ∀ j, (j < 12 * p ∨ 12 * p + 12 ≤ j) → ki' j = ki j)
    (hp : n = nI (pd_kd pa L' p).length ∧ pd_sg ki' (12 * p) (pd_kd pa L' p)) (hq : ∀ q, (q = 0 ∨ q ∈ L) → q ≠ p → pd_kd pa L' q = pd_kd pa L q) : pd_KD pa (upd kc p n) ki' L' := by
  intro q hq'
  rw [hM] at hq'
  by_cases e : q = p
  · subst e; rw [pd_us]; exact hp
  · rw [pd_un e, hq q hq' e]
    obtain ⟨h1, h2⟩ := hK q hq'
    refine ⟨h1, pd_KDf e ?_ hf h2⟩
    rw [← hq q hq' e]
    exact Nat.le_trans (Nat.le_trans (List.length_filter_le _ _) hN) (by omega)
theorem pd_SPr {L L' : List Nat} {x : Int32} (hM : ∀ x, x ∈ L' ↔ x ∈ L) (h : pd_SP L x) : pd_SP L' x :=
  h.imp id (fun ⟨w, hw, e⟩ => ⟨w, hw.imp id (fun z => (hM w).mpr z), e⟩)
end
section
section PDR
variable {f_stacked f_treeSize f_over f_pressed f_focus f_waiting f_noteCount : Int32} {a_there a_parents a_kinds a_colours a_weights a_gaps a_layouts a_values a_effects a_targets a_visible a_enabled a_on a_wishedPlaces a_wishedSizes a_shifts a_stack a_tree a_seen a_able a_places a_sizes a_clipStarts a_clipEnds a_eventKinds a_eventXs a_eventYs a_notes a_pixels : Nat → Int32}
variable {g_many g_waiting g_acted : Int32} {b_kids b_kidCount b_left b_top b_width b_height b_order b_stack b_events : Nat → Int32}
theorem pd_mk {k : Nat} {L : List Nat} {rk : Nat → Nat} (hB : pd_BI a_there a_parents L rk) (hS : pd_ST f_stacked a_stack L) (hK : pd_KD a_parents b_kidCount b_kids L) (hV : pd_VA a_wishedPlaces a_wishedSizes a_weights a_layouts a_targets a_shifts)
    (ho : pd_SP L f_over) (hpr : pd_SP L f_pressed) (hf : pd_SP L f_focus) (hq : pd_QU f_waiting g_waiting a_eventKinds a_eventXs a_eventYs b_events) (hD : pd_DE a_parents a_wishedPlaces a_wishedSizes a_shifts a_visible a_enabled a_layouts a_gaps a_weights L f_treeSize a_tree a_seen a_able a_places a_sizes a_clipStarts a_clipEnds) : i_Rel k (f_stacked, f_treeSize, f_over, f_pressed, f_focus, f_waiting, f_noteCount, a_there, a_parents, a_kinds, a_colours, a_weights, a_gaps, a_layouts, a_values, a_effects, a_targets, a_visible, a_enabled, a_on, a_wishedPlaces, a_wishedSizes, a_shifts, a_stack, a_tree, a_seen, a_able, a_places, a_sizes, a_clipStarts, a_clipEnds, a_eventKinds, a_eventXs, a_eventYs, a_notes, a_pixels) (g_many, g_waiting, f_noteCount, f_over, f_pressed, f_focus, g_acted, a_there, a_kinds, (fun j => a_wishedPlaces (2 * j)), (fun j => a_wishedPlaces (2 * j + 1)), (fun j => a_wishedSizes (2 * j)), (fun j => a_wishedSizes (2 * j + 1)), a_colours, a_layouts, a_gaps, a_weights, (fun j => a_shifts (2 * j)), (fun j => a_shifts (2 * j + 1)), a_visible, a_enabled, a_on, a_values, a_parents, a_effects, a_targets, b_kids, b_kidCount, b_left, b_top, b_width, b_height, b_order, b_stack, a_pixels, b_events, a_notes) :=
  ⟨L, rk, ⟨g_many, g_waiting, g_acted, b_kids, b_kidCount, b_left, b_top, b_width, b_height, b_order, b_stack, b_events, rfl, hB, hS, hK, hV, ho, hpr, hf, hq⟩, hD⟩
theorem py_placeR {post : SY → Prop} {w : Nat} {x y a b : Int32} (hw : w < 12)
    (h : post (g_many, g_waiting, f_noteCount, f_over, f_pressed, f_focus, g_acted, a_there, a_kinds, (fun j => (upd (upd a_wishedPlaces (2 * w) x) (2 * w + 1) y) (2 * j)), (fun j => (upd (upd a_wishedPlaces (2 * w) x) (2 * w + 1) y) (2 * j + 1)), (fun j => (upd (upd a_wishedSizes (2 * w) a) (2 * w + 1) b) (2 * j)), (fun j => (upd (upd a_wishedSizes (2 * w) a) (2 * w + 1) b) (2 * j + 1)), a_colours, a_layouts, a_gaps, a_weights, (fun j => a_shifts (2 * j)), (fun j => a_shifts (2 * j + 1)), a_visible, a_enabled, a_on, a_values, a_parents, a_effects, a_targets, b_kids, b_kidCount, b_left, b_top, b_width, b_height, b_order, b_stack, a_pixels, b_events, a_notes)) : wpY_place post (g_many, g_waiting, f_noteCount, f_over, f_pressed, f_focus, g_acted, a_there, a_kinds, (fun j => a_wishedPlaces (2 * j)), (fun j => a_wishedPlaces (2 * j + 1)), (fun j => a_wishedSizes (2 * j)), (fun j => a_wishedSizes (2 * j + 1)), a_colours, a_layouts, a_gaps, a_weights, (fun j => a_shifts (2 * j)), (fun j => a_shifts (2 * j + 1)), a_visible, a_enabled, a_on, a_values, a_parents, a_effects, a_targets, b_kids, b_kidCount, b_left, b_top, b_width, b_height, b_order, b_stack, a_pixels, b_events, a_notes) (nI w) x y a b := by
  refine py_place hw ?_
  rw [pd_ev, pd_od, pd_ev, pd_od] at h
  exact h
theorem py_beginR {post : SY → Prop} {w : Nat} {p1 p2 : Int32} (hw : w < 12)
    (h : post (g_many, g_waiting, f_noteCount, f_over, f_pressed, f_focus, g_acted, a_there, upd a_kinds w p1, (fun j => a_wishedPlaces (2 * j)), (fun j => a_wishedPlaces (2 * j + 1)), (fun j => a_wishedSizes (2 * j)), (fun j => a_wishedSizes (2 * j + 1)), upd a_colours w p2, upd a_layouts w 0, upd a_gaps w 0, upd a_weights w 0, (fun j => (upd (upd a_shifts (2 * w) 0) (2 * w + 1) 0) (2 * j)), (fun j => (upd (upd a_shifts (2 * w) 0) (2 * w + 1) 0) (2 * j + 1)), upd a_visible w 1, upd a_enabled w 1, upd a_on w 0, upd a_values w 0, a_parents, upd a_effects w 0, upd a_targets w 0, b_kids, upd b_kidCount w 0, b_left, b_top, b_width, b_height, b_order, b_stack, a_pixels, b_events, a_notes)) :
    wpY_begin post (g_many, g_waiting, f_noteCount, f_over, f_pressed, f_focus, g_acted, a_there, a_kinds, (fun j => a_wishedPlaces (2 * j)), (fun j => a_wishedPlaces (2 * j + 1)), (fun j => a_wishedSizes (2 * j)), (fun j => a_wishedSizes (2 * j + 1)), a_colours, a_layouts, a_gaps, a_weights, (fun j => a_shifts (2 * j)), (fun j => a_shifts (2 * j + 1)), a_visible, a_enabled, a_on, a_values, a_parents, a_effects, a_targets, b_kids, b_kidCount, b_left, b_top, b_width, b_height, b_order, b_stack, a_pixels, b_events, a_notes) (nI w) p1 p2 := by
  refine py_begin hw ?_
  rw [pd_ev, pd_od] at h
  exact h
end PDR
theorem i_vc_wish {k : Nat} {u : SX} {v : SY} (I : i_Rel k u v) (hk : k + 8 ≤ 4096) (v1 : Int32) (v2 : Int32) (v3 : Int32) (v4 : Int32) (v5 : Int32) : wpX_wish (fun r u' => wpY_wish (fun r' v' => r' = r ∧ i_Rel (k + 8) u' v') v v1 v2 v3 v4 v5) u v1 v2 v3 v4 v5 := by
  have I' : i_Rel (k + 8) u v := I
  obtain ⟨L, rk, M, D⟩ := I
  obtain ⟨f_stacked, f_treeSize, f_over, f_pressed, f_focus, f_waiting, f_noteCount, a_there, a_parents, a_kinds, a_colours, a_weights, a_gaps, a_layouts, a_values, a_effects, a_targets, a_visible, a_enabled, a_on, a_wishedPlaces, a_wishedSizes, a_shifts, a_stack, a_tree, a_seen, a_able, a_places, a_sizes, a_clipStarts, a_clipEnds, a_eventKinds, a_eventXs, a_eventYs, a_notes, a_pixels⟩ := u
  obtain ⟨g_many, g_waiting, g_acted, b_kids, b_kidCount, b_left, b_top, b_width, b_height, b_order, b_stack, b_events, rfl, hB, hS, hK, hV, ho, hpr, hf, hq⟩ := M
  unfold wpX_wish
  refine px_is ?_
  by_cases c1 : pd_is a_there v1 = 0
  · refine br_t c1 ?_
    unfold wpY_wish
    exact py_is (br_t c1 ⟨rfl, I'⟩)
  · refine br_f c1 ?_
    by_cases c2 : v1 = 0
    · refine br_t c2 ?_
      unfold wpY_wish
      exact py_is (br_f c1 (br_t c2 ⟨rfl, I'⟩))
    · refine br_f c2 (px_wh ?_)
      by_cases c3 : pd_wh v2 v3 v4 v5 = 0
      · refine br_t c3 ?_
        unfold wpY_wish
        exact py_is (br_f c1 (br_f c2 (py_wh (br_t c3 ⟨rfl, I'⟩))))
      · obtain ⟨w, hw, rfl, ht⟩ := pd_is1 c1
        have hw0 : 0 < w := Nat.pos_of_ne_zero fun z => c2 (by rw [z]; exact nI_0)
        have hV' : pd_VA (upd (upd a_wishedPlaces (2 * w) v2) (2 * w + 1) v3) (upd (upd a_wishedSizes (2 * w) v4) (2 * w + 1) v5) a_weights a_layouts a_targets a_shifts := by
          refine ⟨?_, hV.2⟩
          rw [pd_un (by omega), pd_un (by omega), pd_un (by omega), pd_un (by omega), pd_un (by omega), pd_un (by omega), pd_un (by omega), pd_un (by omega)]
          exact hV.1
        refine br_f c3 (px_setw hw (px_settle hB hS hV' (fun tn tr se ab pl sz cs ce hD => ?_)))
        unfold wpY_wish
        refine py_is (br_f c1 (br_f c2 (py_wh (br_f c3 (py_placeR hw ⟨rfl, ?_⟩)))))
        exact pd_mk hB hS hK hV' ho hpr hf hq hD
theorem i_vc_arrange {k : Nat} {u : SX} {v : SY} (I : i_Rel k u v) (hk : k + 8 ≤ 4096) (v1 : Int32) (v2 : Int32) (v3 : Int32) (v4 : Int32) : wpX_arrange (fun r u' => wpY_arrange (fun r' v' => r' = r ∧ i_Rel (k + 8) u' v') v v1 v2 v3 v4) u v1 v2 v3 v4 := by
  have I' : i_Rel (k + 8) u v := I
  obtain ⟨L, rk, M, D⟩ := I
  obtain ⟨f_stacked, f_treeSize, f_over, f_pressed, f_focus, f_waiting, f_noteCount, a_there, a_parents, a_kinds, a_colours, a_weights, a_gaps, a_layouts, a_values, a_effects, a_targets, a_visible, a_enabled, a_on, a_wishedPlaces, a_wishedSizes, a_shifts, a_stack, a_tree, a_seen, a_able, a_places, a_sizes, a_clipStarts, a_clipEnds, a_eventKinds, a_eventXs, a_eventYs, a_notes, a_pixels⟩ := u
  obtain ⟨g_many, g_waiting, g_acted, b_kids, b_kidCount, b_left, b_top, b_width, b_height, b_order, b_stack, b_events, rfl, hB, hS, hK, hV, ho, hpr, hf, hq⟩ := M
  unfold wpX_arrange
  refine px_is ?_
  by_cases c1 : pd_is a_there v1 = 0
  · refine br_t c1 ?_
    unfold wpY_arrange
    exact py_is (br_t c1 ⟨rfl, I'⟩)
  · refine br_f c1 (px_wi ?_)
    by_cases c2 : pd_wi v2 0 2 = 0
    · refine br_t c2 ?_
      unfold wpY_arrange
      exact py_is (br_f c1 (py_wi (br_t c2 ⟨rfl, I'⟩)))
    · refine br_f c2 (px_wi ?_)
      by_cases c3 : pd_wi v3 0 3 = 0
      · refine br_t c3 ?_
        unfold wpY_arrange
        exact py_is (br_f c1 (py_wi (br_f c2 (py_wi (br_t c3 ⟨rfl, I'⟩)))))
      · refine br_f c3 (px_wi ?_)
        by_cases c4 : pd_wi v4 0 3 = 0
        · refine br_t c4 ?_
          unfold wpY_arrange
          exact py_is (br_f c1 (py_wi (br_f c2 (py_wi (br_f c3 (py_wi (br_t c4 ⟨rfl, I'⟩)))))))
        · obtain ⟨w, hw, rfl, ht⟩ := pd_is1 c1
          obtain ⟨l, hl, rfl⟩ := pd_wiN (n := 2) (by decide) c2
          obtain ⟨m, hm, rfl⟩ := pd_wiN (n := 3) (by decide) c4
          have vw : vp_in (nI w) 12 := vp_in_nI hw (by omega)
          have cw : (nI w).toNatClampNeg = w := pd_cl (by omega)
          have hV' : pd_VA a_wishedPlaces a_wishedSizes (upd a_weights w (nI m)) (upd a_layouts w (nI l)) a_targets a_shifts :=
            ⟨hV.1, pd_uP (P := fun x => ∃ k, k ≤ 3 ∧ x = nI k) hV.2.1 ⟨m, hm, rfl⟩, pd_uP (P := fun x => ∃ k, k ≤ 2 ∧ x = nI k) hV.2.2.1 ⟨l, hl, rfl⟩, hV.2.2.2⟩
          refine br_f c4 ⟨vw, nm_r (e' := upd a_layouts w (nI l)) (by rw [cw]) ⟨vw, nm_r (e' := upd a_gaps w v3) (by rw [cw]) ⟨vw, nm_r (e' := upd a_weights w (nI m)) (by rw [cw]) (px_settle hB hS hV' (fun tn tr se ab pl sz cs ce hD => ?_))⟩⟩⟩
          unfold wpY_arrange
          refine py_is (br_f c1 (py_wi (br_f c2 (py_wi (br_f c3 (py_wi (br_f c4 ⟨vw, nm_r (e' := upd a_layouts w (nI l)) (by rw [cw]) ⟨vw, nm_r (e' := upd a_gaps w v3) (by rw [cw]) ⟨vw, nm_r (e' := upd a_weights w (nI m)) (by rw [cw]) ⟨rfl, ?_⟩⟩⟩⟩)))))))
          exact pd_mk hB hS hK hV' ho hpr hf hq hD
theorem i_vc_shift {k : Nat} {u : SX} {v : SY} (I : i_Rel k u v) (hk : k + 8 ≤ 4096) (v1 : Int32) (v2 : Int32) (v3 : Int32) : wpX_shift (fun r u' => wpY_shift (fun r' v' => r' = r ∧ i_Rel (k + 8) u' v') v v1 v2 v3) u v1 v2 v3 := by
  have I' : i_Rel (k + 8) u v := I
  obtain ⟨L, rk, M, D⟩ := I
  obtain ⟨f_stacked, f_treeSize, f_over, f_pressed, f_focus, f_waiting, f_noteCount, a_there, a_parents, a_kinds, a_colours, a_weights, a_gaps, a_layouts, a_values, a_effects, a_targets, a_visible, a_enabled, a_on, a_wishedPlaces, a_wishedSizes, a_shifts, a_stack, a_tree, a_seen, a_able, a_places, a_sizes, a_clipStarts, a_clipEnds, a_eventKinds, a_eventXs, a_eventYs, a_notes, a_pixels⟩ := u
  obtain ⟨g_many, g_waiting, g_acted, b_kids, b_kidCount, b_left, b_top, b_width, b_height, b_order, b_stack, b_events, rfl, hB, hS, hK, hV, ho, hpr, hf, hq⟩ := M
  unfold wpX_shift
  refine px_is ?_
  by_cases c1 : pd_is a_there v1 = 0
  · refine br_t c1 ?_
    unfold wpY_shift
    exact py_is (br_t c1 ⟨rfl, I'⟩)
  · refine br_f c1 (px_wi ?_)
    by_cases c2 : pd_wi v2 (-20) 20 = 0
    · refine br_t c2 ?_
      unfold wpY_shift
      exact py_is (br_f c1 (py_wi (br_t c2 ⟨rfl, I'⟩)))
    · refine br_f c2 (px_wi ?_)
      by_cases c3 : pd_wi v3 (-20) 20 = 0
      · refine br_t c3 ?_
        unfold wpY_shift
        exact py_is (br_f c1 (py_wi (br_f c2 (py_wi (br_t c3 ⟨rfl, I'⟩)))))
      · obtain ⟨w, hw, rfl, ht⟩ := pd_is1 c1
        have vw : vp_in (nI w) 12 := vp_in_nI hw (by omega)
        have cw : (nI w).toNatClampNeg = w := pd_cl (by omega)
        have v0 : vp_in (2 * nI w) 24 := by rw [pd_2]; exact vp_in_nI (by omega) (by omega)
        have c0 : (2 * nI w).toNatClampNeg = 2 * w := by rw [pd_2]; exact pd_cl (by omega)
        have v1 : vp_in (2 * nI w + 1) 24 := by rw [pd_21]; exact vp_in_nI (by omega) (by omega)
        have c1' : (2 * nI w + 1).toNatClampNeg = 2 * w + 1 := by rw [pd_21]; exact pd_cl (by omega)
        have hV' : pd_VA a_wishedPlaces a_wishedSizes a_weights a_layouts a_targets (upd (upd a_shifts (2 * w) v2) (2 * w + 1) v3) :=
          ⟨hV.1, hV.2.1, hV.2.2.1, hV.2.2.2.1, pd_uP (P := fun x => x ≤ 20) (pd_uP (P := fun x => x ≤ 20) hV.2.2.2.2 (pd_wi1 c2).2) (pd_wi1 c3).2⟩
        refine br_f c3 ⟨v0, nm_r (e' := upd a_shifts (2 * w) v2) (by rw [c0]) ⟨v1, nm_r (e' := upd (upd a_shifts (2 * w) v2) (2 * w + 1) v3) (by rw [c1']) (px_settle hB hS hV' (fun tn tr se ab pl sz cs ce hD => ?_))⟩⟩
        unfold wpY_shift
        refine py_is (br_f c1 (py_wi (br_f c2 (py_wi (br_f c3 ⟨vw, nm_r (e' := fun j => upd (upd a_shifts (2 * w) v2) (2 * w + 1) v3 (2 * j)) (by rw [cw, pd_ev]) ⟨vw, nm_r (e' := fun j => upd (upd a_shifts (2 * w) v2) (2 * w + 1) v3 (2 * j + 1)) (by rw [cw, pd_od]) ⟨rfl, ?_⟩⟩⟩)))))
        exact pd_mk hB hS hK hV' ho hpr hf hq hD
theorem pd_len11' {th pa : Nat → Int32} {L : List Nat} {rk : Nat → Nat} (H : pd_BI th pa L rk) : L.length ≤ 11 := pd_len11 H.1 H.2.1
theorem i_vc_change {k : Nat} {u : SX} {v : SY} (I : i_Rel k u v) (hk : k + 8 ≤ 4096) (v1 : Int32) (v2 : Int32) (v3 : Int32) : wpX_change (fun r u' => wpY_change (fun r' v' => r' = r ∧ i_Rel (k + 8) u' v') v v1 v2 v3) u v1 v2 v3 := by
  have I' : i_Rel (k + 8) u v := I
  obtain ⟨L, rk, M, D⟩ := I
  obtain ⟨f_stacked, f_treeSize, f_over, f_pressed, f_focus, f_waiting, f_noteCount, a_there, a_parents, a_kinds, a_colours, a_weights, a_gaps, a_layouts, a_values, a_effects, a_targets, a_visible, a_enabled, a_on, a_wishedPlaces, a_wishedSizes, a_shifts, a_stack, a_tree, a_seen, a_able, a_places, a_sizes, a_clipStarts, a_clipEnds, a_eventKinds, a_eventXs, a_eventYs, a_notes, a_pixels⟩ := u
  obtain ⟨g_many, g_waiting, g_acted, b_kids, b_kidCount, b_left, b_top, b_width, b_height, b_order, b_stack, b_events, rfl, hB, hS, hK, hV, ho, hpr, hf, hq⟩ := M
  unfold wpX_change
  refine px_is ?_
  by_cases c1 : pd_is a_there v1 = 0
  · refine br_t c1 ?_
    unfold wpY_change
    exact py_is (br_t c1 ⟨rfl, I'⟩)
  · refine br_f c1 ?_
    by_cases a : v2 < 0
    · refine br_t a ?_
      unfold wpY_change
      exact py_is (br_f c1 (py_wi (br_t (pd_wi_lo a) ⟨rfl, I'⟩)))
    · by_cases b : 3 < v2
      · refine br_f a (br_t b ?_)
        unfold wpY_change
        exact py_is (br_f c1 (py_wi (br_t (pd_wi_hi a b) ⟨rfl, I'⟩)))
      · have cin := pd_wi_in a b
        obtain ⟨w, hw, rfl, ht⟩ := pd_is1 c1
        have vw : vp_in (nI w) 12 := vp_in_nI hw (by omega)
        have cw : (nI w).toNatClampNeg = w := pd_cl (by omega)
        obtain ⟨j, hj, rfl⟩ := nI_of2 (n := 3) (M := 3) (by decide) a (Int32.not_lt.mp b)
        refine br_f a (br_f b ?_)
        have hz : j = 0 ∨ j = 1 ∨ j = 2 ∨ j = 3 := by omega
        rcases hz with rfl | rfl | rfl | rfl
        · refine br_t (by decide) (px_wi ?_)
          by_cases c3 : pd_wi v3 0 15 = 0
          · refine br_t c3 ?_
            unfold wpY_change
            exact py_is (br_f c1 (py_wi (br_f cin (br_t (by decide) (py_wi (br_t c3 ⟨rfl, I'⟩))))))
          · refine br_f c3 ⟨vw, nm_r (e' := upd a_colours w v3) (by rw [cw]) (px_settle hB hS hV (fun tn tr se ab pl sz cs ce hD => ?_))⟩
            unfold wpY_change
            refine py_is (br_f c1 (py_wi (br_f cin (br_t (by decide) (py_wi (br_f c3 (br_f (by decide) (br_t (by decide) ⟨vw, nm_r (e' := upd a_colours w v3) (by rw [cw]) (br_f (by decide) (br_f (by decide) (br_f (by decide) ⟨rfl, ?_⟩)))⟩))))))))
            exact pd_mk hB hS hK hV ho hpr hf hq hD
        · refine br_f (by decide) (br_t (by decide) ?_)
          by_cases c3 : v3 = 0
          · refine br_t c3 ⟨vw, nm_r (e' := upd a_visible w 0) (by rw [cw, pd_b0]) (px_settle hB hS hV (fun tn tr se ab pl sz cs ce hD => ?_))⟩
            unfold wpY_change
            refine py_is (br_f c1 (py_wi (br_f cin (br_f (by decide) (br_f (by decide) (br_f (by decide) (br_t (by decide) (br_t c3 ⟨vw, nm_r (e' := upd a_visible w 0) (by rw [cw, pd_b0]) (br_f (by decide) (br_f (by decide) ⟨rfl, ?_⟩))⟩))))))))
            exact pd_mk hB hS hK hV ho hpr hf hq hD
          · refine br_f c3 ⟨vw, nm_r (e' := upd a_visible w 1) (by rw [cw, pd_b1]) (px_settle hB hS hV (fun tn tr se ab pl sz cs ce hD => ?_))⟩
            unfold wpY_change
            refine py_is (br_f c1 (py_wi (br_f cin (br_f (by decide) (br_f (by decide) (br_f (by decide) (br_t (by decide) (br_f c3 ⟨vw, nm_r (e' := upd a_visible w 1) (by rw [cw, pd_b1]) (br_f (by decide) (br_f (by decide) ⟨rfl, ?_⟩))⟩))))))))
            exact pd_mk hB hS hK hV ho hpr hf hq hD
        · refine br_f (by decide) (br_f (by decide) (br_t (by decide) ?_))
          by_cases c3 : v3 = 0
          · refine br_t c3 ⟨vw, nm_r (e' := upd a_enabled w 0) (by rw [cw, pd_b0]) (px_settle hB hS hV (fun tn tr se ab pl sz cs ce hD => ?_))⟩
            unfold wpY_change
            refine py_is (br_f c1 (py_wi (br_f cin (br_f (by decide) (br_f (by decide) (br_f (by decide) (br_f (by decide) (br_t (by decide) (br_t c3 ⟨vw, nm_r (e' := upd a_enabled w 0) (by rw [cw, pd_b0]) (br_f (by decide) ⟨rfl, ?_⟩)⟩)))))))))
            exact pd_mk hB hS hK hV ho hpr hf hq hD
          · refine br_f c3 ⟨vw, nm_r (e' := upd a_enabled w 1) (by rw [cw, pd_b1]) (px_settle hB hS hV (fun tn tr se ab pl sz cs ce hD => ?_))⟩
            unfold wpY_change
            refine py_is (br_f c1 (py_wi (br_f cin (br_f (by decide) (br_f (by decide) (br_f (by decide) (br_f (by decide) (br_t (by decide) (br_f c3 ⟨vw, nm_r (e' := upd a_enabled w 1) (by rw [cw, pd_b1]) (br_f (by decide) ⟨rfl, ?_⟩)⟩)))))))))
            exact pd_mk hB hS hK hV ho hpr hf hq hD
        · refine br_f (by decide) (br_f (by decide) (br_f (by decide) (br_t (by decide) ?_)))
          by_cases c2 : nI w = 0
          · refine br_t c2 ?_
            unfold wpY_change
            exact py_is (br_f c1 (py_wi (br_f cin (br_f (by decide) (br_t (by decide) (br_t c2 ⟨rfl, I'⟩))))))
          · have hw0 : 0 < w := Nat.pos_of_ne_zero fun z => c2 (by rw [z]; exact nI_0)
            have hwL : w ∈ L := ((hB.2.2.1 w hw).mp ht).resolve_left (by omega)
            obtain ⟨p, hp, ep, _⟩ := hB.2.2.2.2 w hwL
            have hp12 := pd_12lt hB.2.1 hp
            have hL := pd_len11' hB
            have hc : ∀ c, c ∈ L → c < 12 := fun c hc => (hB.2.1 c hc).2
            have hKl : (pd_kd a_parents L p).length ≤ 11 := Nat.le_trans (List.length_filter_le _ _) hL
            obtain ⟨hk1, hk2⟩ := hK p hp
            have hKc : ∀ c, c ∈ pd_kd a_parents L p → c < 12 := fun c hc' => hc c (pd_mkd.mp hc').1
            have other : ∀ q, (q = 0 ∨ q ∈ L) → q ≠ p → ¬ a_parents w = nI q := fun q hq' hqp z => hqp (pd_im (z.symm.trans ep) (by have := pd_12lt hB.2.1 hq'; omega) (by omega))
            refine br_f c2 ?_
            by_cases c3 : v3 = 0
            · have hB' := pd_BIr hB (pd_loN (w := w) hB.1) (pd_loM hwL)
              refine br_t c3 (px_lower hw hw0 hS hL hc (fun n st hS' => px_settle hB' hS' hV (fun tn tr se ab pl sz cs ce hD => ?_)))
              unfold wpY_change
              refine py_is (br_f c1 (py_wi (br_f cin (br_f (by decide) (br_t (by decide) (br_f c2 (br_f (by decide) (br_f (by decide) (br_f (by decide) (br_t (by decide) (br_t c3 (py_lo hw hp12 hKl ep hk1 hk2 hKc (fun ki s1 s2 => ⟨rfl, ?_⟩)))))))))))))
              have hK' : pd_KD a_parents (upd b_kidCount p (nI ((pd_rm (pd_kd a_parents L p) w).length + 1))) ki (w :: pd_rm L w) :=
                pd_KDr (pd_len11' hB') (pd_loM hwL) hK s2 ⟨by rw [pd_kdlo ep, List.length_cons], by rw [pd_kdlo ep]; exact s1⟩ (fun q hq' hqp => pd_kdlon (other q hq' hqp))
              exact pd_mk hB' hS' hK' hV (pd_SPr (pd_loM hwL) ho) (pd_SPr (pd_loM hwL) hpr) (pd_SPr (pd_loM hwL) hf) hq hD
            · have hB' := pd_BIr hB (pd_hiN (w := w) hB.1) (pd_hiM hwL)
              refine br_f c3 (px_raise hw hw0 hS hL hc (fun n st hS' => px_settle hB' hS' hV (fun tn tr se ab pl sz cs ce hD => ?_)))
              unfold wpY_change
              refine py_is (br_f c1 (py_wi (br_f cin (br_f (by decide) (br_t (by decide) (br_f c2 (br_f (by decide) (br_f (by decide) (br_f (by decide) (br_t (by decide) (br_f c3 (py_hi hw hp12 hKl ep hk1 hk2 hKc (fun ki s1 s2 => ⟨rfl, ?_⟩)))))))))))))
              have hK' : pd_KD a_parents (upd b_kidCount p (nI ((pd_rm (pd_kd a_parents L p) w).length + 1))) ki (pd_rm L w ++ [w]) :=
                pd_KDr (pd_len11' hB') (pd_hiM hwL) hK s2 ⟨by rw [pd_kdhi ep, List.length_append, List.length_singleton], by rw [pd_kdhi ep]; exact s1⟩ (fun q hq' hqp => pd_kdhin (other q hq' hqp))
              exact pd_mk hB' hS' hK' hV (pd_SPr (pd_hiM hwL) ho) (pd_SPr (pd_hiM hwL) hpr) (pd_SPr (pd_hiM hwL) hf) hq hD
end
section
section PDS
variable {f_stacked f_treeSize f_over f_pressed f_focus f_waiting f_noteCount : Int32} {a_there a_parents a_kinds a_colours a_weights a_gaps a_layouts a_values a_effects a_targets a_visible a_enabled a_on a_wishedPlaces a_wishedSizes a_shifts a_stack a_tree a_seen a_able a_places a_sizes a_clipStarts a_clipEnds a_eventKinds a_eventXs a_eventYs a_notes a_pixels : Nat → Int32}
variable {g_many g_waiting g_acted : Int32} {b_kids b_kidCount b_left b_top b_width b_height b_order b_stack b_events : Nat → Int32}
theorem px_lf2 {post : Int32 → Prop} : ∀ (d j : Nat), j + d = 12 → post (if pd_lf a_there d j = 12 then -1 else nI (pd_lf a_there d j)) → wX_leastFree_2 post f_stacked f_treeSize f_over f_pressed f_focus f_waiting f_noteCount a_there a_parents a_kinds a_colours a_weights a_gaps a_layouts a_values a_effects a_targets a_visible a_enabled a_on a_wishedPlaces a_wishedSizes a_shifts a_stack a_tree a_seen a_able a_places a_sizes a_clipStarts a_clipEnds a_eventKinds a_eventXs a_eventYs a_notes a_pixels (d + 1) (nI j) := by
  intro d
  induction d with
  | zero =>
    intro j hj h
    have e : pd_lf a_there 0 j = 12 := hj
    rw [if_pos e] at h
    rw [wX_leastFree_2]
    exact br_t (nI_le (a := 12) (by omega) (by omega)) h
  | succ d ih =>
    intro j hj h
    rw [wX_leastFree_2]
    refine br_f (nI_ge (b := 12) (by omega) (by omega)) ⟨vp_in_nI (by omega) (by omega), ?_⟩
    rw [pd_cl (by omega)]
    by_cases c : a_there j = 0
    · have e : pd_lf a_there (d + 1) j = j := if_pos c
      rw [e, if_neg (show ¬ j = 12 by omega)] at h
      exact br_t c h
    · have e : pd_lf a_there (d + 1) j = pd_lf a_there d (j + 1) := if_neg c
      rw [e] at h
      exact br_f c (nm_r (nI_1 j) (ih (j + 1) (by omega) h))
theorem py_lf46 {post : Int32 → SY → Prop} {p0 p1 p2 p3 p4 p5 p6 : Int32} : ∀ (d j : Nat), j + d = 12 → wY_make_69 post p0 p1 p2 p3 p4 p5 p6 (nI (pd_lf a_there d j)) g_many g_waiting f_noteCount f_over f_pressed f_focus g_acted a_there a_kinds (fun j => a_wishedPlaces (2 * j)) (fun j => a_wishedPlaces (2 * j + 1)) (fun j => a_wishedSizes (2 * j)) (fun j => a_wishedSizes (2 * j + 1)) a_colours a_layouts a_gaps a_weights (fun j => a_shifts (2 * j)) (fun j => a_shifts (2 * j + 1)) a_visible a_enabled a_on a_values a_parents a_effects a_targets b_kids b_kidCount b_left b_top b_width b_height b_order b_stack a_pixels b_events a_notes → wY_make_46 post p0 p1 p2 p3 p4 p5 p6 g_many g_waiting f_noteCount f_over f_pressed f_focus g_acted a_there a_kinds (fun j => a_wishedPlaces (2 * j)) (fun j => a_wishedPlaces (2 * j + 1)) (fun j => a_wishedSizes (2 * j)) (fun j => a_wishedSizes (2 * j + 1)) a_colours a_layouts a_gaps a_weights (fun j => a_shifts (2 * j)) (fun j => a_shifts (2 * j + 1)) a_visible a_enabled a_on a_values a_parents a_effects a_targets b_kids b_kidCount b_left b_top b_width b_height b_order b_stack a_pixels b_events a_notes (d + 1) (nI j) := by
  intro d
  induction d with
  | zero =>
    intro j hj h
    rw [wY_make_46]
    exact br_t (nI_le (a := 12) (by omega) (by omega)) h
  | succ d ih =>
    intro j hj h
    rw [wY_make_46]
    refine br_f (nI_ge (b := 12) (by omega) (by omega)) ⟨vp_in_nI (by omega) (by omega), ?_⟩
    rw [pd_cl (by omega)]
    simp only [pd_lf] at h
    by_cases c : a_there j = 0
    · rw [if_pos c] at h
      exact br_t c h
    · rw [if_neg c] at h
      exact br_f c (nm_r (nI_1 j) (ih (j + 1) (by omega) h))
theorem pd_wi01 (x l g : Int32) : pd_wi x l g = 0 ∨ pd_wi x l g = 1 := by
  unfold pd_wi
  by_cases a : x < l
  · exact Or.inl (if_pos a)
  · rw [if_neg a]
    by_cases b : g < x
    · exact Or.inl (if_pos b)
    · exact Or.inr (if_neg b)
def pd_acc (p0 p1 p2 : Int32) : Prop := (∃ k, k ≤ 2 ∧ p0 = nI k ∧ ¬ pd_wi p1 (-8) 39 = 0 ∧ ¬ pd_wi p2 (-8) 23 = 0) ∨ (p0 = nI 3 ∧ ¬ pd_wi p1 0 9 = 0) ∨ p0 = nI 4
theorem pd_accK {p0 p1 p2 : Int32} (h : pd_acc p0 p1 p2) : ∃ j, j ≤ 4 ∧ p0 = nI j := by
  rcases h with ⟨k, hk, e, _⟩ | ⟨e, _⟩ | e
  · exact ⟨k, by omega, e⟩
  · exact ⟨3, by omega, e⟩
  · exact ⟨4, by omega, e⟩
theorem pd_acc2 {j : Nat} {p1 p2 : Int32} (hj : j ≤ 2) (h : pd_acc (nI j) p1 p2) : ¬ pd_wi p1 (-8) 39 = 0 ∧ ¬ pd_wi p2 (-8) 23 = 0 := by
  rcases h with ⟨k, hk, e, h⟩ | ⟨e, _⟩ | e
  · exact h
  · have := pd_im e (by omega) (by omega); omega
  · have := pd_im e (by omega) (by omega); omega
theorem pd_acc3 {p1 p2 : Int32} (h : pd_acc (nI 3) p1 p2) : ¬ pd_wi p1 0 9 = 0 := by
  rcases h with ⟨k, hk, e, h⟩ | ⟨e, h⟩ | e
  · have := pd_im e (by omega) (by omega); omega
  · exact h
  · have := pd_im e (by omega) (by omega); omega
theorem px_ev36 {post : Int32 → Prop} {j : Nat} {p1 p2 : Int32} (hj : j ≤ 2) (hA : pd_acc (nI j) p1 p2 → post 1) (hR : ¬ pd_acc (nI j) p1 p2 → post 0) : wX_isEvent_36 post p1 p2 := by
  unfold wX_isEvent_36
  refine px_wi ?_
  by_cases a : pd_wi p1 (-8) 39 = 0
  · exact br_t a (hR (fun z => (pd_acc2 hj z).1 a))
  · refine br_f a (px_wi ?_)
    by_cases b : pd_wi p2 (-8) 23 = 0
    · exact br_t b (hR (fun z => (pd_acc2 hj z).2 b))
    · exact br_f b (hA (Or.inl ⟨j, hj, rfl, a, b⟩))
theorem px_ev {post : Int32 → Prop} {p0 p1 p2 : Int32} (hA : pd_acc p0 p1 p2 → post 1) (hR : ¬ pd_acc p0 p1 p2 → post 0) : wpX_isEvent post p0 p1 p2 := by
  by_cases a : p0 < 0
  · refine br_t a (hR (fun z => ?_))
    obtain ⟨j, hj, rfl⟩ := pd_accK z
    exact nI_pos (by omega) a
  · by_cases b : 4 < p0
    · refine br_f a (br_t b (hR (fun z => ?_)))
      obtain ⟨j, hj, rfl⟩ := pd_accK z
      exact nI_nlt (a := 4) (b := j) hj (by omega) b
    · refine br_f a (br_f b ?_)
      obtain ⟨j, hj, rfl⟩ := nI_of2 (n := 4) (M := 4) (by decide) a (Int32.not_lt.mp b)
      have hz : j = 0 ∨ j = 1 ∨ j = 2 ∨ j = 3 ∨ j = 4 := by omega
      rcases hz with rfl | rfl | rfl | rfl | rfl
      · exact br_t (by decide) (px_ev36 (by omega) hA hR)
      · exact br_f (by decide) (br_t (by decide) (px_ev36 (by omega) hA hR))
      · exact br_f (by decide) (br_f (by decide) (br_t (by decide) (px_ev36 (by omega) hA hR)))
      · refine br_f (by decide) (br_f (by decide) (br_f (by decide) (br_t (by decide) (px_wi ?_))))
        rcases pd_wi01 p1 0 9 with e | e
        · rw [e]; exact ⟨rfl, hR (fun z => pd_acc3 z e)⟩
        · rw [e]; exact ⟨rfl, hA (Or.inr (Or.inl ⟨rfl, by rw [e]; decide⟩))⟩
      · exact br_f (by decide) (br_f (by decide) (br_f (by decide) (br_f (by decide) (br_t (by decide) (hA (Or.inr (Or.inr rfl)))))))
theorem py_ev {post : Int32 → SY → Prop} {p0 p1 p2 : Int32} (hA : pd_acc p0 p1 p2 → wY_post_65 post p0 p1 p2 g_many g_waiting f_noteCount f_over f_pressed f_focus g_acted a_there a_kinds (fun j => a_wishedPlaces (2 * j)) (fun j => a_wishedPlaces (2 * j + 1)) (fun j => a_wishedSizes (2 * j)) (fun j => a_wishedSizes (2 * j + 1)) a_colours a_layouts a_gaps a_weights (fun j => a_shifts (2 * j)) (fun j => a_shifts (2 * j + 1)) a_visible a_enabled a_on a_values a_parents a_effects a_targets b_kids b_kidCount b_left b_top b_width b_height b_order b_stack a_pixels b_events a_notes) (hR : ¬ pd_acc p0 p1 p2 → post (-1) (g_many, g_waiting, f_noteCount, f_over, f_pressed, f_focus, g_acted, a_there, a_kinds, (fun j => a_wishedPlaces (2 * j)), (fun j => a_wishedPlaces (2 * j + 1)), (fun j => a_wishedSizes (2 * j)), (fun j => a_wishedSizes (2 * j + 1)), a_colours, a_layouts, a_gaps, a_weights, (fun j => a_shifts (2 * j)), (fun j => a_shifts (2 * j + 1)), a_visible, a_enabled, a_on, a_values, a_parents, a_effects, a_targets, b_kids, b_kidCount, b_left, b_top, b_width, b_height, b_order, b_stack, a_pixels, b_events, a_notes)) : wpY_post post (g_many, g_waiting, f_noteCount, f_over, f_pressed, f_focus, g_acted, a_there, a_kinds, (fun j => a_wishedPlaces (2 * j)), (fun j => a_wishedPlaces (2 * j + 1)), (fun j => a_wishedSizes (2 * j)), (fun j => a_wishedSizes (2 * j + 1)), a_colours, a_layouts, a_gaps, a_weights, (fun j => a_shifts (2 * j)), (fun j => a_shifts (2 * j + 1)), a_visible, a_enabled, a_on, a_values, a_parents, a_effects, a_targets, b_kids, b_kidCount, b_left, b_top, b_width, b_height, b_order, b_stack, a_pixels, b_events, a_notes) p0 p1 p2 := by
  unfold wpY_post
  refine py_wi ?_
  by_cases a : pd_wi p0 0 2 = 0
  · refine br_t a (br_t rfl ?_)
    by_cases c4 : p0 = 4
    · exact br_t c4 (hA (Or.inr (Or.inr c4)))
    · by_cases c3 : p0 = 3
      · subst c3
        refine br_f c4 (br_t rfl (py_wi ?_))
        by_cases c : pd_wi p1 0 9 = 0
        · exact br_t c (hR (fun z => pd_acc3 z c))
        · exact br_f c (hA (Or.inr (Or.inl ⟨rfl, c⟩)))
      · refine br_f c4 (br_f c3 (hR (fun z => ?_)))
        rcases z with ⟨k, hk, e, _⟩ | ⟨e, _⟩ | e
        · rw [e, pd_wiS (g := 2) (n := 2) rfl (by omega) (nI_pos' (by omega)) (nI_lt (by omega) (by omega))] at a
          exact absurd a (by decide)
        · exact c3 e
        · exact c4 e
  · obtain ⟨j, hj, rfl⟩ := pd_wiN (n := 2) (by decide) a
    have n4 : ¬ nI j = 4 := fun z => by have := pd_im (b := 4) z (by omega) (by omega); omega
    have n3 : ¬ nI j = 3 := fun z => by have := pd_im (b := 3) z (by omega) (by omega); omega
    refine br_f a (py_wi ?_)
    by_cases b : pd_wi p1 (-8) 39 = 0
    · exact br_t b (br_t rfl (br_f n4 (br_f n3 (hR (fun z => (pd_acc2 hj z).1 b)))))
    · refine br_f b (py_wi ?_)
      by_cases c : pd_wi p2 (-8) 23 = 0
      · exact br_t c (br_t rfl (br_f n4 (br_f n3 (hR (fun z => (pd_acc2 hj z).2 c)))))
      · exact br_f c (br_f (by decide) (hA (Or.inl ⟨j, hj, rfl, b, c⟩)))
theorem px_sev {post : SX → Prop} {z : Nat} {k x y : Int32} (hz : z < 16) (h : post (f_stacked, f_treeSize, f_over, f_pressed, f_focus, f_waiting, f_noteCount, a_there, a_parents, a_kinds, a_colours, a_weights, a_gaps, a_layouts, a_values, a_effects, a_targets, a_visible, a_enabled, a_on, a_wishedPlaces, a_wishedSizes, a_shifts, a_stack, a_tree, a_seen, a_able, a_places, a_sizes, a_clipStarts, a_clipEnds, upd a_eventKinds z k, upd a_eventXs z x, upd a_eventYs z y, a_notes, a_pixels)) : wpX_setEvent post (f_stacked, f_treeSize, f_over, f_pressed, f_focus, f_waiting, f_noteCount, a_there, a_parents, a_kinds, a_colours, a_weights, a_gaps, a_layouts, a_values, a_effects, a_targets, a_visible, a_enabled, a_on, a_wishedPlaces, a_wishedSizes, a_shifts, a_stack, a_tree, a_seen, a_able, a_places, a_sizes, a_clipStarts, a_clipEnds, a_eventKinds, a_eventXs, a_eventYs, a_notes, a_pixels) (nI z) k x y := by
  have v : vp_in (nI z) 16 := vp_in_nI hz (by omega)
  have c : (nI z).toNatClampNeg = z := pd_cl (by omega)
  exact ⟨v, nm_r (e' := upd a_eventKinds z k) (by rw [c]) ⟨v, nm_r (e' := upd a_eventXs z x) (by rw [c]) ⟨v, nm_r (e' := upd a_eventYs z y) (by rw [c]) h⟩⟩⟩
theorem py_141 {post : Int32 → SY → Prop} {z : Nat} {k x y : Int32} (hz : z < 16) (h : post g_waiting (g_many, g_waiting, f_noteCount, f_over, f_pressed, f_focus, g_acted, a_there, a_kinds, (fun j => a_wishedPlaces (2 * j)), (fun j => a_wishedPlaces (2 * j + 1)), (fun j => a_wishedSizes (2 * j)), (fun j => a_wishedSizes (2 * j + 1)), a_colours, a_layouts, a_gaps, a_weights, (fun j => a_shifts (2 * j)), (fun j => a_shifts (2 * j + 1)), a_visible, a_enabled, a_on, a_values, a_parents, a_effects, a_targets, b_kids, b_kidCount, b_left, b_top, b_width, b_height, b_order, b_stack, a_pixels, upd (upd (upd b_events (3 * z) k) (3 * z + 1) x) (3 * z + 2) y, a_notes)) : wY_post_141 post k x y (nI z) g_many g_waiting f_noteCount f_over f_pressed f_focus g_acted a_there a_kinds (fun j => a_wishedPlaces (2 * j)) (fun j => a_wishedPlaces (2 * j + 1)) (fun j => a_wishedSizes (2 * j)) (fun j => a_wishedSizes (2 * j + 1)) a_colours a_layouts a_gaps a_weights (fun j => a_shifts (2 * j)) (fun j => a_shifts (2 * j + 1)) a_visible a_enabled a_on a_values a_parents a_effects a_targets b_kids b_kidCount b_left b_top b_width b_height b_order b_stack a_pixels b_events a_notes := by
  have e0 : 3 * nI z = nI (3 * z) := pd_3 z
  have e1 : 3 * nI z + 1 = nI (3 * z + 1) := by rw [e0, nI_1]
  have e2 : 3 * nI z + 2 = nI (3 * z + 2) := by rw [e0]; exact nI_add (3 * z) 2
  exact ⟨by rw [e0]; exact vp_in_nI (by omega) (by omega), nm_r (e' := upd b_events (3 * z) k) (by rw [e0, pd_cl (by omega)]) ⟨by rw [e1]; exact vp_in_nI (by omega) (by omega), nm_r (e' := upd (upd b_events (3 * z) k) (3 * z + 1) x) (by rw [e1, pd_cl (by omega)]) ⟨by rw [e2]; exact vp_in_nI (by omega) (by omega), nm_r (e' := upd (upd (upd b_events (3 * z) k) (3 * z + 1) x) (3 * z + 2) y) (by rw [e2, pd_cl (by omega)]) h⟩⟩⟩
theorem pd_QUs {q z k : Nat} {x y : Int32} {ek ex ey ev : Nat → Int32} (h : ∀ i, i < q → (∃ k, k ≤ 4 ∧ ek i = nI k) ∧ ev (3 * i) = ek i ∧ ev (3 * i + 1) = ex i ∧ ev (3 * i + 2) = ey i) (hk : k ≤ 4) :
    ∀ i, (i < q ∨ i = z) → (∃ k', k' ≤ 4 ∧ upd ek z (nI k) i = nI k') ∧ upd (upd (upd ev (3 * z) (nI k)) (3 * z + 1) x) (3 * z + 2) y (3 * i) = upd ek z (nI k) i ∧ upd (upd (upd ev (3 * z) (nI k)) (3 * z + 1) x) (3 * z + 2) y (3 * i + 1) = upd ex z x i ∧ upd (upd (upd ev (3 * z) (nI k)) (3 * z + 1) x) (3 * z + 2) y (3 * i + 2) = upd ey z y i := by
  intro i hi
  by_cases e : i = z
  · subst e
    rw [pd_us, pd_us, pd_us, pd_un (by omega), pd_un (by omega), pd_us, pd_un (by omega), pd_us, pd_us]
    exact ⟨⟨k, hk, rfl⟩, rfl, rfl, rfl⟩
  · rw [pd_un e, pd_un e, pd_un e, pd_un (by omega), pd_un (by omega), pd_un (by omega), pd_un (by omega), pd_un (by omega), pd_un (by omega), pd_un (by omega), pd_un (by omega), pd_un (by omega)]
    exact h i (hi.resolve_right e)
end PDS
theorem i_vc_post {k : Nat} {u : SX} {v : SY} (I : i_Rel k u v) (hk : k + 8 ≤ 4096) (v1 : Int32) (v2 : Int32) (v3 : Int32) : wpX_post (fun r u' => wpY_post (fun r' v' => r' = r ∧ i_Rel (k + 8) u' v') v v1 v2 v3) u v1 v2 v3 := by
  have I' : i_Rel (k + 8) u v := I
  obtain ⟨L, rk, M, D⟩ := I
  obtain ⟨f_stacked, f_treeSize, f_over, f_pressed, f_focus, f_waiting, f_noteCount, a_there, a_parents, a_kinds, a_colours, a_weights, a_gaps, a_layouts, a_values, a_effects, a_targets, a_visible, a_enabled, a_on, a_wishedPlaces, a_wishedSizes, a_shifts, a_stack, a_tree, a_seen, a_able, a_places, a_sizes, a_clipStarts, a_clipEnds, a_eventKinds, a_eventXs, a_eventYs, a_notes, a_pixels⟩ := u
  obtain ⟨g_many, g_waiting, g_acted, b_kids, b_kidCount, b_left, b_top, b_width, b_height, b_order, b_stack, b_events, rfl, hB, hS, hK, hV, ho, hpr, hf, hq⟩ := M
  have D0 : pd_DE a_parents a_wishedPlaces a_wishedSizes a_shifts a_visible a_enabled a_layouts a_gaps a_weights L f_treeSize a_tree a_seen a_able a_places a_sizes a_clipStarts a_clipEnds := D
  obtain ⟨q, hq16, rfl, rfl, hE⟩ := hq
  unfold wpX_post
  refine px_ev (fun acc => br_f (by decide) ?_) (fun nacc => br_t rfl (py_ev (fun z => absurd z nacc) (fun _ => ⟨rfl, I'⟩)))
  obtain ⟨j, hj, rfl⟩ := pd_accK acc
  have app : ∀ hno : (nI j = 0 → 0 < q → ¬ a_eventKinds (q - 1) = 0), wX_post_54 (fun r u' => wpY_post (fun r' v' => r' = r ∧ i_Rel (k + 8) u' v') (g_many, nI q, f_noteCount, f_over, f_pressed, f_focus, g_acted, a_there, a_kinds, (fun j => a_wishedPlaces (2 * j)), (fun j => a_wishedPlaces (2 * j + 1)), (fun j => a_wishedSizes (2 * j)), (fun j => a_wishedSizes (2 * j + 1)), a_colours, a_layouts, a_gaps, a_weights, (fun j => a_shifts (2 * j)), (fun j => a_shifts (2 * j + 1)), a_visible, a_enabled, a_on, a_values, a_parents, a_effects, a_targets, b_kids, b_kidCount, b_left, b_top, b_width, b_height, b_order, b_stack, a_pixels, b_events, a_notes) (nI j) v2 v3) (nI j) v2 v3 f_stacked f_treeSize f_over f_pressed f_focus (nI q) f_noteCount a_there a_parents a_kinds a_colours a_weights a_gaps a_layouts a_values a_effects a_targets a_visible a_enabled a_on a_wishedPlaces a_wishedSizes a_shifts a_stack a_tree a_seen a_able a_places a_sizes a_clipStarts a_clipEnds a_eventKinds a_eventXs a_eventYs a_notes a_pixels := by
    intro hno
    have y97 : ∀ post : Int32 → SY → Prop, wY_post_97 post (nI j) v2 v3 0 g_many (nI q) f_noteCount f_over f_pressed f_focus g_acted a_there a_kinds (fun j => a_wishedPlaces (2 * j)) (fun j => a_wishedPlaces (2 * j + 1)) (fun j => a_wishedSizes (2 * j)) (fun j => a_wishedSizes (2 * j + 1)) a_colours a_layouts a_gaps a_weights (fun j => a_shifts (2 * j)) (fun j => a_shifts (2 * j + 1)) a_visible a_enabled a_on a_values a_parents a_effects a_targets b_kids b_kidCount b_left b_top b_width b_height b_order b_stack a_pixels b_events a_notes → wY_post_65 post (nI j) v2 v3 g_many (nI q) f_noteCount f_over f_pressed f_focus g_acted a_there a_kinds (fun j => a_wishedPlaces (2 * j)) (fun j => a_wishedPlaces (2 * j + 1)) (fun j => a_wishedSizes (2 * j)) (fun j => a_wishedSizes (2 * j + 1)) a_colours a_layouts a_gaps a_weights (fun j => a_shifts (2 * j)) (fun j => a_shifts (2 * j + 1)) a_visible a_enabled a_on a_values a_parents a_effects a_targets b_kids b_kidCount b_left b_top b_width b_height b_order b_stack a_pixels b_events a_notes := by
      intro post h97
      by_cases c0 : nI j = 0
      · refine br_t c0 ?_
        by_cases cq : q = 0
        · exact br_t (by rw [cq]; exact Int32.le_refl _) h97
        · have e3 : 3 * nI q - 3 = nI (3 * (q - 1)) := by
            rw [pd_3, show 3 * (q - 1) = 3 * q - 3 by omega]; exact pd_sub (a := 3 * q) (b := 3) (by omega)
          refine br_f (nI_nle (by omega) (by omega)) ⟨by rw [e3]; exact vp_in_nI (by omega) (by omega), ?_⟩
          rw [e3, pd_cl (by omega), (hE (q - 1) (by omega)).2.1]
          exact br_f (hno c0 (by omega)) h97
      · exact br_f c0 h97
    by_cases cf : q < 16
    · refine br_t (nI_lt (b := 16) cf (by decide)) (px_sev cf (nm_r (nI_1 q) ?_))
      refine py_ev (fun _ => y97 _ ?_) (fun z => absurd acc z)
      refine br_f (fun z => by have := pd_im (b := 16) z (by omega) (by omega); omega) (br_t rfl (nm_r (nI_1 q) (py_141 cf ⟨rfl, ?_⟩)))
      exact pd_mk hB hS hK hV ho hpr hf ⟨q + 1, by omega, rfl, rfl, fun i hi => pd_QUs hE hj i (by omega)⟩ D0
    · have e16 : q = 16 := by omega
      subst e16
      refine br_f (by decide) ?_
      exact py_ev (fun _ => y97 _ (br_t (by decide) (br_t rfl ⟨rfl, I'⟩))) (fun z => absurd acc z)
  by_cases c0 : nI j = 0
  · refine br_t c0 ?_
    by_cases cq : q = 0
    · exact br_t (by rw [cq]; exact Int32.le_refl _) (app (fun _ z => by omega))
    · have e1 : nI q - 1 = nI (q - 1) := pd_s (by omega)
      refine br_f (nI_nle (by omega) (by omega)) ⟨by rw [e1]; exact vp_in_nI (by omega) (by omega), ?_⟩
      rw [e1, pd_cl (n := q - 1) (by omega)]
      by_cases ce : a_eventKinds (q - 1) = 0
      · refine br_t ce (px_sev (by omega) ?_)
        refine py_ev (fun _ => br_t c0 (br_f (nI_nle (by omega) (by omega)) ?_)) (fun z => absurd acc z)
        have e3 : 3 * nI q - 3 = nI (3 * (q - 1)) := by
          rw [pd_3, show 3 * (q - 1) = 3 * q - 3 by omega]; exact pd_sub (a := 3 * q) (b := 3) (by omega)
        refine ⟨by rw [e3]; exact vp_in_nI (by omega) (by omega), ?_⟩
        rw [e3, pd_cl (by omega), (hE (q - 1) (by omega)).2.1]
        have f116 : wY_post_116 (fun r' v' => r' = nI q ∧ i_Rel (k + 8) (f_stacked, f_treeSize, f_over, f_pressed, f_focus, nI q, f_noteCount, a_there, a_parents, a_kinds, a_colours, a_weights, a_gaps, a_layouts, a_values, a_effects, a_targets, a_visible, a_enabled, a_on, a_wishedPlaces, a_wishedSizes, a_shifts, a_stack, a_tree, a_seen, a_able, a_places, a_sizes, a_clipStarts, a_clipEnds, upd a_eventKinds (q - 1) (nI j), upd a_eventXs (q - 1) v2, upd a_eventYs (q - 1) v3, a_notes, a_pixels) v') (nI j) v2 v3 1 g_many (nI q) f_noteCount f_over f_pressed f_focus g_acted a_there a_kinds (fun j => a_wishedPlaces (2 * j)) (fun j => a_wishedPlaces (2 * j + 1)) (fun j => a_wishedSizes (2 * j)) (fun j => a_wishedSizes (2 * j + 1)) a_colours a_layouts a_gaps a_weights (fun j => a_shifts (2 * j)) (fun j => a_shifts (2 * j + 1)) a_visible a_enabled a_on a_values a_parents a_effects a_targets b_kids b_kidCount b_left b_top b_width b_height b_order b_stack a_pixels b_events a_notes := by
          refine br_f (by decide) ?_
          rw [e1]
          refine py_141 (by omega) ⟨rfl, ?_⟩
          exact pd_mk hB hS hK hV ho hpr hf ⟨q, hq16, rfl, rfl, fun i hi => pd_QUs hE hj i (by omega)⟩ D0
        exact br_t ce (br_c (fun _ => br_f (by decide) f116) (fun _ => f116))
      · exact br_f ce (app (fun _ _ => ce))
  · exact br_f c0 (app (fun z => absurd z c0))
end
section
theorem pd_SPm {L : List Nat} {x : Int32} {w : Nat} (h : pd_SP L x) : pd_SP (L ++ [w]) x :=
  h.imp id (fun ⟨v, hv, e⟩ => ⟨v, hv.imp id (fun z => List.mem_append_left _ z), e⟩)
theorem pd_KDn {pa pa' kc ki : Nat → Int32} {L : List Nat} {w p : Nat} (hl : L.length ≤ 11) (hp : p = 0 ∨ p ∈ L) (hpw : p ≠ w) (hwL : w ∉ L) (hw0 : 0 < w) (hK : pd_KD pa kc ki L)
    (h1 : ∀ q, (q = 0 ∨ q ∈ L) → q ≠ p → pd_kd pa' (L ++ [w]) q = pd_kd pa L q) (h2 : pd_kd pa' (L ++ [w]) p = pd_kd pa L p ++ [w]) (h3 : pd_kd pa' (L ++ [w]) w = []) :
    pd_KD pa' (upd (upd kc w 0) p (nI ((pd_kd pa L p).length + 1))) (upd ki (12 * p + (pd_kd pa L p).length) (nI w)) (L ++ [w]) := by
  have hKl : ∀ q, (pd_kd pa L q).length ≤ 11 := fun q => Nat.le_trans (List.length_filter_le _ _) hl
  intro q hq
  by_cases e : q = p
  · subst e
    rw [pd_us, h2, List.length_append, List.length_singleton]
    refine ⟨rfl, (pd_sg_a _ [w] _).mpr ⟨pd_sg_c _ _ (hK q hp).2 (fun j _ hj => pd_un (by omega)), pd_us, trivial⟩⟩
  · rw [pd_un e]
    by_cases ew : q = w
    · subst ew
      rw [pd_us, h3]
      exact ⟨nI_0.symm, trivial⟩
    · have hqL : q = 0 ∨ q ∈ L := hq.imp id (fun z => by
        cases List.mem_append.mp z with
        | inl z => exact z
        | inr z => exact absurd (by simpa using z) ew)
      rw [pd_un ew, h1 q hqL e]
      have := hKl q
      have := hKl p
      exact ⟨(hK q hqL).1, pd_sg_c _ _ (hK q hqL).2 (fun j h4 h5 => pd_un (by omega))⟩
theorem i_vc_make {k : Nat} {u : SX} {v : SY} (I : i_Rel k u v) (hk : k + 8 ≤ 4096) (v1 : Int32) (v2 : Int32) (v3 : Int32) (v4 : Int32) (v5 : Int32) (v6 : Int32) (v7 : Int32) : wpX_make (fun r u' => wpY_make (fun r' v' => r' = r ∧ i_Rel (k + 8) u' v') v v1 v2 v3 v4 v5 v6 v7) u v1 v2 v3 v4 v5 v6 v7 := by
  have I' : i_Rel (k + 8) u v := I
  obtain ⟨L, rk, M, D⟩ := I
  obtain ⟨f_stacked, f_treeSize, f_over, f_pressed, f_focus, f_waiting, f_noteCount, a_there, a_parents, a_kinds, a_colours, a_weights, a_gaps, a_layouts, a_values, a_effects, a_targets, a_visible, a_enabled, a_on, a_wishedPlaces, a_wishedSizes, a_shifts, a_stack, a_tree, a_seen, a_able, a_places, a_sizes, a_clipStarts, a_clipEnds, a_eventKinds, a_eventXs, a_eventYs, a_notes, a_pixels⟩ := u
  obtain ⟨g_many, g_waiting, g_acted, b_kids, b_kidCount, b_left, b_top, b_width, b_height, b_order, b_stack, b_events, rfl, hB, hS, hK, hV, ho, hpr, hf, hq⟩ := M
  unfold wpX_make
  refine px_is ?_
  by_cases c1 : pd_is a_there v1 = 0
  · refine br_t c1 ?_
    unfold wpY_make
    exact py_is (br_t c1 ⟨rfl, I'⟩)
  · refine br_f c1 (px_wi ?_)
    by_cases c2 : pd_wi v2 0 3 = 0
    · refine br_t c2 ?_
      unfold wpY_make
      exact py_is (br_f c1 (py_wi (br_t c2 ⟨rfl, I'⟩)))
    · refine br_f c2 (px_wh ?_)
      by_cases c3 : pd_wh v3 v4 v5 v6 = 0
      · refine br_t c3 ?_
        unfold wpY_make
        exact py_is (br_f c1 (py_wi (br_f c2 (py_wh (br_t c3 ⟨rfl, I'⟩)))))
      · refine br_f c3 (px_wi ?_)
        by_cases c4 : pd_wi v7 0 15 = 0
        · refine br_t c4 ?_
          unfold wpY_make
          exact py_is (br_f c1 (py_wi (br_f c2 (py_wh (br_f c3 (py_wi (br_t c4 ⟨rfl, I'⟩)))))))
        · refine br_f c4 ⟨13, px_lf2 12 0 rfl ?_⟩
          obtain ⟨_, b2, b3⟩ := pd_lfB a_there 12 0
          by_cases e12 : pd_lf a_there 12 0 = 12
          · rw [if_pos e12]
            refine br_t rfl ?_
            unfold wpY_make
            exact py_is (br_f c1 (py_wi (br_f c2 (py_wh (br_f c3 (py_wi (br_f c4 ⟨13, py_lf46 12 0 rfl (by rw [e12]; exact br_t rfl ⟨rfl, I'⟩)⟩)))))))
          · rw [if_neg e12]
            have hw : pd_lf a_there 12 0 < 12 := by omega
            have ht := b3 (by omega)
            generalize ew : pd_lf a_there 12 0 = w at hw ht e12
            obtain ⟨p, hp, rfl, htp⟩ := pd_is1 c1
            obtain ⟨hB', hwL, hw0, hpL, hpw, k1, k2, k3⟩ := pd_BIn hB hw ht hp htp
            have hL := pd_len11' hB
            have hV' : pd_VA (upd (upd a_wishedPlaces (2 * w) v3) (2 * w + 1) v4) (upd (upd a_wishedSizes (2 * w) v5) (2 * w + 1) v6) (upd a_weights w 0) (upd a_layouts w 0) (upd a_targets w 0) (upd (upd a_shifts (2 * w) 0) (2 * w + 1) 0) := by
              refine ⟨?_, pd_uP (P := fun x => ∃ k, k ≤ 3 ∧ x = nI k) hV.2.1 ⟨0, by omega, nI_0.symm⟩, pd_uP (P := fun x => ∃ k, k ≤ 2 ∧ x = nI k) hV.2.2.1 ⟨0, by omega, nI_0.symm⟩, pd_uP (P := fun x => ∃ k, k < 12 ∧ x = nI k) hV.2.2.2.1 ⟨0, by omega, nI_0.symm⟩, pd_uP (P := fun x => x ≤ 20) (pd_uP (P := fun x => x ≤ 20) hV.2.2.2.2 (by decide)) (by decide)⟩
              rw [pd_un (by omega), pd_un (by omega), pd_un (by omega), pd_un (by omega), pd_un (by omega), pd_un (by omega), pd_un (by omega), pd_un (by omega)]
              exact hV.1
            refine br_f (pd_ne1 (by omega)) (px_begin hw (px_setw hw (px_puth hS hL (fun n st hS' => px_settle hB' hS' hV' (fun tn tr se ab pl sz cs ce hD => ?_)))))
            unfold wpY_make
            refine py_is (br_f c1 (py_wi (br_f c2 (py_wh (br_f c3 (py_wi (br_f c4 ⟨13, py_lf46 12 0 rfl ?_⟩)))))))
            rw [ew]
            have vw : vp_in (nI w) 12 := vp_in_nI hw (by omega)
            have cw : (nI w).toNatClampNeg = w := pd_cl (by omega)
            have vp : vp_in (nI p) 12 := vp_in_nI hp (by omega)
            have cp : (nI p).toNatClampNeg = p := pd_cl (by omega)
            obtain ⟨kc, ks⟩ := hK p hpL
            have hKl : (pd_kd a_parents L p).length ≤ 11 := Nat.le_trans (List.length_filter_le _ _) hL
            refine br_f (fun z => by have := pd_im (b := 12) z (by omega) (by omega); omega) ⟨vw, nm_r (e' := upd a_there w 1) (by rw [cw, pd_b1]) (py_beginR (a_there := upd a_there w 1) hw (py_placeR hw ?_))⟩
            refine ⟨vw, nm_r (e' := upd a_parents w (nI p)) (by rw [cw]) ⟨vp, vp, nm_r (e' := upd (upd b_kidCount w 0) p (nI ((pd_kd a_parents L p).length + 1))) (by rw [cp, pd_un hpw, kc, nI_1]) ?_⟩⟩
            have e5 : 12 * nI p + upd b_kidCount w 0 (nI p).toNatClampNeg = nI (12 * p + (pd_kd a_parents L p).length) := by rw [cp, pd_un hpw, kc, pd_12b]
            refine ⟨by rw [e5]; exact vp_in_nI (by omega) (by omega), nm_r (e' := upd b_kids (12 * p + (pd_kd a_parents L p).length) (nI w)) (by rw [e5, pd_cl (by omega)]) ⟨rfl, ?_⟩⟩
            exact pd_mk hB' hS' (pd_KDn hL hpL hpw hwL hw0 hK k1 k2 k3) hV' (pd_SPm ho) (pd_SPm hpr) (pd_SPm hf) hq hD
theorem pd_u0 (w : Nat) : upd (fun _ => 0) w 0 = fun _ => 0 := by
  funext j
  by_cases e : j = w
  · subst e; exact pd_us
  · exact pd_un e
theorem i_vc0 : wpX_init (fun u => wpY_init (fun v => i_Rel 0 u v)) := by
  have hB : pd_BI (upd (fun _ => 0) 0 1) (upd (fun _ => 0) 0 (-1)) [] (fun _ => 0) := by
    refine ⟨by simp, (fun w hw => by cases hw), fun w _ => ?_, pd_us, (fun w hw => by cases hw)⟩
    by_cases e : w = 0
    · subst e; rw [pd_us]; exact ⟨fun _ => Or.inl rfl, fun _ => by decide⟩
    · rw [pd_un e]
      exact ⟨fun z => absurd rfl z, fun z => z.elim (fun y => absurd y e) (fun y => by cases y)⟩
  have hS : pd_ST 0 (fun _ => 0) [] := ⟨nI_0.symm, trivial⟩
  have hV : pd_VA (upd (upd (fun _ => 0) (2 * 0) 0) (2 * 0 + 1) 0) (upd (upd (fun _ => 0) (2 * 0) 32) (2 * 0 + 1) 16) (upd (fun _ => 0) 0 0) (upd (fun _ => 0) 0 0) (upd (fun _ => 0) 0 0) (upd (upd (fun _ => 0) (2 * 0) 0) (2 * 0 + 1) 0) := by
    refine ⟨⟨rfl, rfl, rfl, rfl⟩, fun c _ => ⟨0, by omega, ?_⟩, fun c _ => ⟨0, by omega, ?_⟩, fun c _ => ⟨0, by omega, ?_⟩, pd_uP (P := fun x => x ≤ 20) (pd_uP (P := fun x => x ≤ 20) (fun c _ => by decide) (by decide)) (by decide)⟩
    · rw [pd_u0]; exact nI_0.symm
    · rw [pd_u0]; exact nI_0.symm
    · rw [pd_u0]; exact nI_0.symm
  have hSP : pd_SP [] (-1) := Or.inl rfl
  unfold wpX_init
  refine px_begin (w := 0) (by omega) (px_setw (w := 0) (by omega) (px_settle hB hS hV (fun tn tr se ab pl sz cs ce hD => ?_)))
  unfold wpY_init
  refine nm_r (e' := upd (fun _ => 0) 0 1) (by rw [pd_b1]) (py_begin (w := 0) (by omega) (nm_e (nm_e (nm_e ?_))))
  refine ⟨[], fun _ => 0, ⟨0, 0, 0, (fun _ => 0), upd (fun _ => 0) 0 0, (fun _ => 0), (fun _ => 0), (fun _ => 0), (fun _ => 0), (fun _ => 0), (fun _ => 0), (fun _ => 0), ?_, hB, hS, ?_, hV, hSP, hSP, hSP, ⟨0, by omega, nI_0.symm, nI_0.symm, fun i hi => by omega⟩⟩, hD⟩
  · rw [pd_ev (fun _ => 0) 0 0 0, pd_od (fun _ => 0) 0 0 0, pd_ev (fun _ => 0) 0 32 16, pd_od (fun _ => 0) 0 32 16]
    simp only [pd_u0]
  · intro p hp
    have : p = 0 := hp.elim id (fun z => by cases z)
    subst this
    exact ⟨nI_0.symm, trivial⟩
end
section
section PDT
/-! Z: remove -/
def pd_tc (th : Nat → Int32) (de : Nat → Bool) (a : Nat) (S : List Nat) : Nat → Int32 := fun w => if de w = true ∧ (w ∈ S ∨ w = a) then 0 else th w
theorem pd_tcK {th : Nat → Int32} {de : Nat → Bool} {a w : Nat} {S : List Nat} (h : de w = true → w = a) : pd_tc th de a (w :: S) = pd_tc th de a S := by
  funext v
  unfold pd_tc
  have e : (de v = true ∧ (v ∈ w :: S ∨ v = a)) ↔ (de v = true ∧ (v ∈ S ∨ v = a)) := by
    constructor
    · rintro ⟨h1, h2⟩
      refine ⟨h1, ?_⟩
      rcases h2 with z | z
      · cases List.mem_cons.mp z with
        | inl e => exact Or.inr (by rw [e] at h1 ⊢; exact h h1)
        | inr e => exact Or.inl e
      · exact Or.inr z
    · rintro ⟨h1, h2⟩
      exact ⟨h1, h2.imp (fun z => List.mem_cons_of_mem _ z) id⟩
  simp only [e]
theorem pd_tcU {th : Nat → Int32} {de : Nat → Bool} {a w : Nat} {S : List Nat} (h : de w = true) : pd_tc th de a (w :: S) = upd (pd_tc th de a S) w 0 := by
  funext v
  by_cases e : v = w
  · subst e
    rw [pd_us]
    exact if_pos ⟨h, Or.inl (List.mem_cons_self ..)⟩
  · rw [pd_un e]
    unfold pd_tc
    have e : (de v = true ∧ (v ∈ w :: S ∨ v = a)) ↔ (de v = true ∧ (v ∈ S ∨ v = a)) := by
      constructor
      · rintro ⟨h1, h2⟩
        exact ⟨h1, h2.imp (fun z => (List.mem_cons.mp z).resolve_left e) id⟩
      · rintro ⟨h1, h2⟩
        exact ⟨h1, h2.imp (fun z => List.mem_cons_of_mem _ z) id⟩
    simp only [e]
def pd_fl (th : Nat → Int32) (L : List Nat) : List Nat := L.filter (fun v => decide (th v ≠ 0))
theorem pd_flU {th : Nat → Int32} {L : List Nat} {w : Nat} : pd_fl (upd th w 0) L = pd_rm (pd_fl th L) w := by
  unfold pd_fl pd_rm
  rw [List.filter_filter]
  apply List.filter_congr
  intro v _
  by_cases e : v = w
  · subst e; rw [pd_us]; simp
  · rw [pd_un e]; simp [e]
theorem pd_Z2 {C p : Nat → Int32} {i : Nat} (h : C i = p i) : pd_Z C p i = pd_Z C p (i + 1) := by
  funext q
  unfold pd_Z
  by_cases e : q = i
  · subst e; rw [if_neg (by omega), if_pos (by omega), h]
  · have h : q < i ↔ q < i + 1 := by omega
    simp only [h]
variable {f_stacked f_treeSize f_over f_pressed f_focus f_waiting f_noteCount : Int32} {a_there a_parents a_kinds a_colours a_weights a_gaps a_layouts a_values a_effects a_targets a_visible a_enabled a_on a_wishedPlaces a_wishedSizes a_shifts a_stack a_tree a_seen a_able a_places a_sizes a_clipStarts a_clipEnds a_eventKinds a_eventXs a_eventYs a_notes a_pixels : Nat → Int32}
variable {g_many g_waiting g_acted : Int32} {b_kids b_kidCount b_left b_top b_width b_height b_order b_stack b_events : Nat → Int32}
theorem px_take {post : SX → Prop} {w : Nat} {L : List Nat} (hw : w < 12) (hST : pd_ST f_stacked a_stack L) (hl : L.length ≤ 11) (hc : ∀ c, c ∈ L → c < 12)
    (h : ∀ n st, pd_ST n st (pd_rm L w) → post (n, f_treeSize, (if f_over = nI w then -1 else f_over), (if f_pressed = nI w then -1 else f_pressed), (if f_focus = nI w then -1 else f_focus), f_waiting, f_noteCount, upd a_there w 0, a_parents, a_kinds, a_colours, a_weights, a_gaps, a_layouts, a_values, a_effects, a_targets, a_visible, a_enabled, a_on, a_wishedPlaces, a_wishedSizes, a_shifts, st, a_tree, a_seen, a_able, a_places, a_sizes, a_clipStarts, a_clipEnds, a_eventKinds, a_eventXs, a_eventYs, a_notes, a_pixels)) :
    wpX_takeAway post (f_stacked, f_treeSize, f_over, f_pressed, f_focus, f_waiting, f_noteCount, a_there, a_parents, a_kinds, a_colours, a_weights, a_gaps, a_layouts, a_values, a_effects, a_targets, a_visible, a_enabled, a_on, a_wishedPlaces, a_wishedSizes, a_shifts, a_stack, a_tree, a_seen, a_able, a_places, a_sizes, a_clipStarts, a_clipEnds, a_eventKinds, a_eventXs, a_eventYs, a_notes, a_pixels) (nI w) := by
  refine ⟨vp_in_nI hw (by omega), nm_r (e' := upd a_there w 0) (by rw [pd_cl (by omega), pd_b0]) (px_uns hw hST hl hc (fun n st h1 => ?_))⟩
  have h' := h n st h1
  by_cases c1 : f_over = nI w
  · rw [if_pos c1] at h'
    refine br_t c1 ?_
    by_cases c2 : f_pressed = nI w
    · rw [if_pos c2] at h'
      refine br_t c2 ?_
      by_cases c3 : f_focus = nI w
      · rw [if_pos c3] at h'; exact br_t c3 h'
      · rw [if_neg c3] at h'; exact br_f c3 h'
    · rw [if_neg c2] at h'
      refine br_f c2 ?_
      by_cases c3 : f_focus = nI w
      · rw [if_pos c3] at h'; exact br_t c3 h'
      · rw [if_neg c3] at h'; exact br_f c3 h'
  · rw [if_neg c1] at h'
    refine br_f c1 ?_
    by_cases c2 : f_pressed = nI w
    · rw [if_pos c2] at h'
      refine br_t c2 ?_
      by_cases c3 : f_focus = nI w
      · rw [if_pos c3] at h'; exact br_t c3 h'
      · rw [if_neg c3] at h'; exact br_f c3 h'
    · rw [if_neg c2] at h'
      refine br_f c2 ?_
      by_cases c3 : f_focus = nI w
      · rw [if_pos c3] at h'; exact br_t c3 h'
      · rw [if_neg c3] at h'; exact br_f c3 h'
theorem px_rem23 {post : Int32 → SX → Prop} {L : List Nat} {rk : Nat → Nat} {th : Nat → Int32} {de : Nat → Bool} {a N : Nat} {o1 o2 o3 : Int32} (H : pd_BI th a_parents L rk) (ha : a ∈ L) (hN : N ≤ 12)
    (h0 : de 0 = false) (hd : ∀ c p, c ∈ L → (p = 0 ∨ p ∈ L) → a_parents c = nI p → de c = (decide (c = a) || de p)) (s1 : pd_SP L o1) (s2 : pd_SP L o2) (s3 : pd_SP L o3) :
    ∀ (R S : List Nat) (i n m : Nat) (fs : Int32) (st : Nat → Int32), pd_sg a_tree i R → i + R.length = N → R.length < n → pd_pb a_parents S R → (∀ w, w ∈ R → w = 0 ∨ w ∈ L) → (∀ w, w ∈ S → w = 0 ∨ w ∈ L) → (S ++ R).Nodup → pd_ST fs st (pd_fl (pd_tc th de a S) L) →
    (∀ fs' st' S', (∀ w, w ∈ S' ↔ w ∈ S ∨ w ∈ R) → pd_ST fs' st' (pd_fl (pd_tc th de a S') L) →
      wpX_settle (fun u => match u with | (f_stacked1, f_treeSize1, f_over1, f_pressed1, f_focus1, f_waiting1, f_noteCount1, a_there1, a_parents1, a_kinds1, a_colours1, a_weights1, a_gaps1, a_layouts1, a_values1, a_effects1, a_targets1, a_visible1, a_enabled1, a_on1, a_wishedPlaces1, a_wishedSizes1, a_shifts1, a_stack1, a_tree1, a_seen1, a_able1, a_places1, a_sizes1, a_clipStarts1, a_clipEnds1, a_eventKinds1, a_eventXs1, a_eventYs1, a_notes1, a_pixels1) => post (nI (m + (R.filter (fun w => de w && decide (w ≠ a))).length)) (f_stacked1, f_treeSize1, f_over1, f_pressed1, f_focus1, f_waiting1, f_noteCount1, a_there1, a_parents1, a_kinds1, a_colours1, a_weights1, a_gaps1, a_layouts1, a_values1, a_effects1, a_targets1, a_visible1, a_enabled1, a_on1, a_wishedPlaces1, a_wishedSizes1, a_shifts1, a_stack1, a_tree1, a_seen1, a_able1, a_places1, a_sizes1, a_clipStarts1, a_clipEnds1, a_eventKinds1, a_eventXs1, a_eventYs1, a_notes1, a_pixels1))
        (fs', nI N, pd_ovf (pd_tc th de a S') o1, pd_ovf (pd_tc th de a S') o2, pd_ovf (pd_tc th de a S') o3, f_waiting, f_noteCount, pd_tc th de a S', a_parents, a_kinds, a_colours, a_weights, a_gaps, a_layouts, a_values, a_effects, a_targets, a_visible, a_enabled, a_on, a_wishedPlaces, a_wishedSizes, a_shifts, st', a_tree, a_seen, a_able, a_places, a_sizes, a_clipStarts, a_clipEnds, a_eventKinds, a_eventXs, a_eventYs, a_notes, a_pixels)) →
    wX_remove_23 post n (nI m) (nI i) fs (nI N) (pd_ovf (pd_tc th de a S) o1) (pd_ovf (pd_tc th de a S) o2) (pd_ovf (pd_tc th de a S) o3) f_waiting f_noteCount (pd_tc th de a S) a_parents a_kinds a_colours a_weights a_gaps a_layouts a_values a_effects a_targets a_visible a_enabled a_on a_wishedPlaces a_wishedSizes a_shifts st a_tree a_seen a_able a_places a_sizes a_clipStarts a_clipEnds a_eventKinds a_eventXs a_eventYs a_notes a_pixels := by
  have hda : de a = true := by
    obtain ⟨p, hp, ep, _⟩ := H.2.2.2.2 a ha
    rw [hd a p ha hp ep]; simp
  have hth : ∀ w, (w = 0 ∨ w ∈ L) → th w ≠ 0 := fun w hw => (H.2.2.1 w (pd_12lt H.2.1 hw)).mpr hw
  intro R
  induction R with
  | nil =>
    intro S i n m fs st _ hi hn _ _ _ _ hs h
    obtain ⟨n, rfl⟩ : ∃ k, n = k + 1 := ⟨n - 1, by omega⟩
    rw [wX_remove_23]
    have hi' : i = N := hi
    refine br_t (by rw [hi']; exact Int32.le_refl _) ?_
    exact h fs st S (fun w => ⟨Or.inl, fun z => z.elim id (fun y => by cases y)⟩) hs
  | cons w R ih =>
    intro S i n m fs st htr hi hn hpb hR hS hnd hs h
    obtain ⟨n, rfl⟩ : ∃ k, n = k + 1 := ⟨n - 1, by omega⟩
    rw [List.length_cons] at hi hn
    have hw : w = 0 ∨ w ∈ L := hR w (List.mem_cons_self ..)
    have hw12 := pd_12lt H.2.1 hw
    have hwS : w ∉ S := fun z => (List.nodup_append.mp hnd).2.2 w z w (List.mem_cons_self ..) rfl
    have hnd' : ((w :: S) ++ R).Nodup := by
      have e := List.perm_middle (a := w) (l₁ := S) (l₂ := R)
      exact e.nodup hnd
    have hR' : ∀ v, v ∈ R → v = 0 ∨ v ∈ L := fun v hv => hR v (List.mem_cons_of_mem _ hv)
    have hS' : ∀ v, v ∈ w :: S → v = 0 ∨ v ∈ L := fun v hv => (List.mem_cons.mp hv).elim (fun e => e ▸ hw) (fun e => hS v e)
    have mm : ∀ S' : List Nat, (∀ v, v ∈ S' ↔ v ∈ w :: S ∨ v ∈ R) → ∀ v, v ∈ S' ↔ v ∈ S ∨ v ∈ w :: R := by
      intro S' hS2 v
      rw [hS2 v, List.mem_cons, List.mem_cons]
      constructor
      · rintro ((z | z) | z)
        · exact Or.inr (Or.inl z)
        · exact Or.inl z
        · exact Or.inr (Or.inr z)
      · rintro (z | z | z)
        · exact Or.inl (Or.inr z)
        · exact Or.inl (Or.inl z)
        · exact Or.inr z
    rw [wX_remove_23]
    refine br_f (nI_ge (by omega) (by omega)) ⟨vp_in_nI (by omega) (by omega), nm_r (e' := nI w) (by rw [pd_cl (by omega)]; exact htr.1) ?_⟩
    rw [pd_cl (n := w) (by omega)]
    -- passed over: nothing changes
    have skip : (de w = true → w = a) → wX_remove_23 post n (nI m) (nI (i + 1)) fs (nI N) (pd_ovf (pd_tc th de a S) o1) (pd_ovf (pd_tc th de a S) o2) (pd_ovf (pd_tc th de a S) o3) f_waiting f_noteCount (pd_tc th de a S) a_parents a_kinds a_colours a_weights a_gaps a_layouts a_values a_effects a_targets a_visible a_enabled a_on a_wishedPlaces a_wishedSizes a_shifts st a_tree a_seen a_able a_places a_sizes a_clipStarts a_clipEnds a_eventKinds a_eventXs a_eventYs a_notes a_pixels := by
      intro hk
      have ef : ((w :: R).filter (fun w => de w && decide (w ≠ a))) = R.filter (fun w => de w && decide (w ≠ a)) := by
        rw [List.filter_cons_of_neg]
        intro z
        rw [Bool.and_eq_true, decide_eq_true_iff] at z
        exact z.2 (hk z.1)
      rw [ef] at h
      have k := ih (w :: S) (i + 1) n m fs st htr.2 (by omega) (by omega) hpb.2 hR' hS' hnd' (by rw [pd_tcK hk]; exact hs) (fun fs' st' S' z1 z2 => h fs' st' S' (mm S' z1) z2)
      rw [pd_tcK hk] at k
      exact k
    by_cases e0 : w = 0
    · refine br_t (by rw [e0]; exact nI_0) (nm_r (nI_1 i) (skip (fun z => ?_)))
      rw [e0, h0] at z
      exact absurd z (by decide)
    · have hwL : w ∈ L := hw.resolve_left e0
      refine br_f (nI_ne0 (by omega) (by omega)) ⟨vp_in_nI hw12 (by omega), ?_⟩
      by_cases ea : w = a
      · have ez : pd_tc th de a S w = 0 := if_pos ⟨by rw [ea]; exact hda, Or.inr ea⟩
        exact br_t ez (nm_r (nI_1 i) (skip (fun _ => ea)))
      · have ez : pd_tc th de a S w = th w := if_neg (fun z => z.2.elim hwS ea)
        obtain ⟨p, hpS, ep⟩ := hpb.1.resolve_left e0
        have hp := hS p hpS
        have hp12 := pd_12lt H.2.1 hp
        have edp := hd w p hwL hp ep
        rw [decide_eq_false ea, Bool.false_or] at edp
        refine br_f (by rw [ez]; exact hth w hw) ⟨vp_in_nI hw12 (by omega), by rw [ep]; exact vp_in_nI hp12 (by omega), ?_⟩
        rw [ep, pd_cl (n := p) (by omega)]
        by_cases dp : de p = true
        · have ezp : pd_tc th de a S p = 0 := if_pos ⟨dp, Or.inl hpS⟩
          have hdw : de w = true := edp.trans dp
          have ef : ((w :: R).filter (fun w => de w && decide (w ≠ a))) = w :: R.filter (fun w => de w && decide (w ≠ a)) := by
            rw [List.filter_cons_of_pos]
            rw [Bool.and_eq_true, decide_eq_true_iff]
            exact ⟨hdw, ea⟩
          rw [ef, List.length_cons] at h
          have hfl : (pd_fl (pd_tc th de a S) L).length ≤ 11 := Nat.le_trans (List.length_filter_le _ _) (pd_len11' H)
          refine br_t ezp (px_take hw12 hs hfl (fun c hc => (H.2.1 c (List.mem_filter.mp hc).1).2) (fun n1 st1 hs1 => nm_r (nI_1 m) (nm_r (nI_1 i) ?_)))
          have k := ih (w :: S) (i + 1) n (m + 1) n1 st1 htr.2 (by omega) (by omega) hpb.2 hR' hS' hnd' (by rw [pd_tcU hdw, pd_flU]; exact hs1) (fun fs' st' S' z1 z2 => by
            have y := h fs' st' S' (mm S' z1) z2
            rw [show m + ((R.filter (fun w => de w && decide (w ≠ a))).length + 1) = m + 1 + (R.filter (fun w => de w && decide (w ≠ a))).length by omega] at y
            exact y)
          rw [pd_tcU hdw, pd_ovu H.2.1 s1 hw12, pd_ovu H.2.1 s2 hw12, pd_ovu H.2.1 s3 hw12] at k
          exact k
        · have ezp : pd_tc th de a S p = th p := if_neg (fun z => dp z.1)
          refine br_f (by rw [ezp]; exact hth p hp) (nm_r (nI_1 i) (skip (fun z => ?_)))
          exact absurd (edp.symm.trans z) dp
theorem py_above {L : List Nat} {rk : Nat → Nat} {de : Nat → Bool} {a : Nat} (H : pd_BI a_there a_parents L rk) (ha : a ∈ L)
    (h0 : de 0 = false) (hd : ∀ c p, c ∈ L → (p = 0 ∨ p ∈ L) → a_parents c = nI p → de c = (decide (c = a) || de p)) {post : Int32 → Prop} :
    ∀ w, (w = 0 ∨ w ∈ L) → (de w = true → post 1) → (de w = false → post 0) → wpY_isAbove post (g_many, g_waiting, f_noteCount, f_over, f_pressed, f_focus, g_acted, a_there, a_kinds, (fun j => a_wishedPlaces (2 * j)), (fun j => a_wishedPlaces (2 * j + 1)), (fun j => a_wishedSizes (2 * j)), (fun j => a_wishedSizes (2 * j + 1)), a_colours, a_layouts, a_gaps, a_weights, (fun j => a_shifts (2 * j)), (fun j => a_shifts (2 * j + 1)), a_visible, a_enabled, a_on, a_values, a_parents, a_effects, a_targets, b_kids, b_kidCount, b_left, b_top, b_width, b_height, b_order, b_stack, a_pixels, b_events, a_notes) (nI a) (nI w) := by
  have ha12 := H.2.1 a ha
  refine pd_ind H _ ?_ ?_
  · intro _ k0
    refine ⟨2, ?_⟩
    rw [wY_isAbove_2]
    refine br_f (by decide) (br_f (fun z => by have := pd_im (a := 0) z (by omega) (by omega); omega) ⟨vp_in_nI (n := 0) (by omega) (by omega), nm_r (e' := -1) H.2.2.2.1 ?_⟩)
    rw [wY_isAbove_2]
    exact br_t (by decide) (br_f (pd_1ne (by omega)) (k0 h0))
  · intro c p hc hp ep ih k1 k0
    have hc12 := (H.2.1 c hc).2
    have e := hd c p hc hp ep
    by_cases ec : c = a
    · subst ec
      refine ⟨1, ?_⟩
      rw [wY_isAbove_2]
      exact br_f (nI_pos (by omega)) (br_t rfl (br_t rfl (k1 (by rw [e]; simp))))
    · rw [decide_eq_false ec, Bool.false_or] at e
      obtain ⟨n, hn⟩ := ih (fun z => k1 (e.trans z)) (fun z => k0 (e.trans z))
      refine ⟨n + 1, ?_⟩
      rw [wY_isAbove_2]
      exact br_f (nI_pos (by omega)) (br_f (fun z => ec (pd_im z (by omega) (by omega))) ⟨vp_in_nI hc12 (by omega), nm_r (e' := nI p) (by rw [pd_cl (by omega)]; exact ep) hn⟩)
theorem py_rem26 {post : Int32 → SY → Prop} {L : List Nat} {rk : Nat → Nat} {de : Nat → Bool} {a : Nat} (H : pd_BI a_there a_parents L rk) (ha : a ∈ L)
    (h0 : de 0 = false) (hd : ∀ c p, c ∈ L → (p = 0 ∨ p ∈ L) → a_parents c = nI p → de c = (decide (c = a) || de p))
    (h : ∀ g : Int32, (∀ l, l < 12 → bt g l = (decide (a_there l ≠ 0) && de l)) → ∃ n72, wY_remove_72 post (nI ((List.range 12).filter (fun w => decide (a_there w ≠ 0) && de w)).length) g g_many g_waiting f_noteCount f_over f_pressed f_focus g_acted n72 0 a_there a_kinds (fun j => a_wishedPlaces (2 * j)) (fun j => a_wishedPlaces (2 * j + 1)) (fun j => a_wishedSizes (2 * j)) (fun j => a_wishedSizes (2 * j + 1)) a_colours a_layouts a_gaps a_weights (fun j => a_shifts (2 * j)) (fun j => a_shifts (2 * j + 1)) a_visible a_enabled a_on a_values a_parents a_effects a_targets b_kids b_kidCount b_left b_top b_width b_height b_order b_stack a_pixels b_events a_notes) :
    ∀ (d j m : Nat) (g : Int32), j + d = 12 → m = ((List.range j).filter (fun w => decide (a_there w ≠ 0) && de w)).length → (∀ l, l < 12 → bt g l = (decide (l < j) && (decide (a_there l ≠ 0) && de l))) →
      wY_remove_26 post (nI a) g_many g_waiting f_noteCount f_over f_pressed f_focus g_acted a_there a_kinds (fun j => a_wishedPlaces (2 * j)) (fun j => a_wishedPlaces (2 * j + 1)) (fun j => a_wishedSizes (2 * j)) (fun j => a_wishedSizes (2 * j + 1)) a_colours a_layouts a_gaps a_weights (fun j => a_shifts (2 * j)) (fun j => a_shifts (2 * j + 1)) a_visible a_enabled a_on a_values a_parents a_effects a_targets b_kids b_kidCount b_left b_top b_width b_height b_order b_stack a_pixels b_events a_notes (d + 1) (nI m) g (nI j) := by
  intro d
  induction d with
  | zero =>
    intro j m g hj hm hg
    have e : j = 12 := hj
    subst e hm
    rw [wY_remove_26]
    refine br_t (nI_le (a := 12) (by omega) (by omega)) (h g (fun l hl => ?_))
    rw [hg l hl, decide_eq_true hl, Bool.true_and]
  | succ d ih =>
    intro j m g hj hm hg
    have er : (List.range (j + 1)).filter (fun w => decide (a_there w ≠ 0) && de w) = (List.range j).filter (fun w => decide (a_there w ≠ 0) && de w) ++ [j].filter (fun w => decide (a_there w ≠ 0) && de w) := by
      rw [List.range_succ, List.filter_append]
    rw [wY_remove_26]
    refine br_f (nI_ge (b := 12) (by omega) (by omega)) ⟨vp_in_nI (by omega) (by omega), ?_⟩
    rw [pd_cl (n := j) (by omega)]
    have skip : (decide (a_there j ≠ 0) && de j) = false → wY_remove_26 post (nI a) g_many g_waiting f_noteCount f_over f_pressed f_focus g_acted a_there a_kinds (fun j => a_wishedPlaces (2 * j)) (fun j => a_wishedPlaces (2 * j + 1)) (fun j => a_wishedSizes (2 * j)) (fun j => a_wishedSizes (2 * j + 1)) a_colours a_layouts a_gaps a_weights (fun j => a_shifts (2 * j)) (fun j => a_shifts (2 * j + 1)) a_visible a_enabled a_on a_values a_parents a_effects a_targets b_kids b_kidCount b_left b_top b_width b_height b_order b_stack a_pixels b_events a_notes (d + 1) (nI m) g (nI (j + 1)) := by
      intro hz
      refine ih (j + 1) m g (by omega) ?_ (fun l hl => ?_)
      · rw [er, List.filter_cons_of_neg (by rw [hz]; decide), List.filter_nil, List.append_nil]; exact hm
      · rw [hg l hl]
        by_cases e : l = j
        · rw [e, hz]; simp
        · have : l < j ↔ l < j + 1 := by omega
          simp only [this]
    by_cases c : a_there j = 0
    · exact br_t c (nm_r (nI_1 j) (skip (by simp [c])))
    · have hjL := (H.2.2.1 j (by omega)).mp c
      refine br_f c (py_above H ha h0 hd j hjL (fun z => ?_) (fun z => br_t rfl (nm_r (nI_1 j) (skip (by rw [z, Bool.and_false])))))
      refine br_f (by decide) (nm_r (nI_1 m) (nm_e (nm_r (nI_1 j) (ih (j + 1) (m + 1) _ (by omega) ?_ (fun l hl => ?_)))))
      · rw [er, List.filter_cons_of_pos (by rw [z, decide_eq_true c]; rfl), List.filter_nil, List.length_append, List.length_singleton, ← hm]
      · rw [pd_btS g (by omega) (by omega), hg l hl]
        by_cases e : l = j
        · rw [e, z, decide_eq_true c]; simp
        · have : l < j ↔ l < j + 1 := by omega
          simp only [this, decide_eq_false e, Bool.or_false]
theorem py_rem72 {post : Int32 → SY → Prop} {m : Int32} {g : Int32} {L : List Nat} {th : Nat → Int32} (hL : ∀ w, w ∈ L → 0 < w ∧ w < 12) (s1 : pd_SP L f_over) (s2 : pd_SP L f_pressed) (s3 : pd_SP L f_focus) (T : Nat → Int32) (hT : ∀ l, l < 12 → T l = if bt g l = true then 0 else th l)
    (h : post m (g_many, g_waiting, f_noteCount, pd_ovf (pd_Z T th 12) f_over, pd_ovf (pd_Z T th 12) f_pressed, pd_ovf (pd_Z T th 12) f_focus, g_acted, pd_Z T th 12, a_kinds, (fun j => a_wishedPlaces (2 * j)), (fun j => a_wishedPlaces (2 * j + 1)), (fun j => a_wishedSizes (2 * j)), (fun j => a_wishedSizes (2 * j + 1)), a_colours, a_layouts, a_gaps, a_weights, (fun j => a_shifts (2 * j)), (fun j => a_shifts (2 * j + 1)), a_visible, a_enabled, a_on, a_values, a_parents, a_effects, a_targets, b_kids, b_kidCount, b_left, b_top, b_width, b_height, b_order, b_stack, a_pixels, b_events, a_notes)) :
    ∀ (d j : Nat), j + d = 12 → wY_remove_72 post m g g_many g_waiting f_noteCount f_over f_pressed f_focus g_acted (d + 1) (nI j) (pd_Z T th j) a_kinds (fun j => a_wishedPlaces (2 * j)) (fun j => a_wishedPlaces (2 * j + 1)) (fun j => a_wishedSizes (2 * j)) (fun j => a_wishedSizes (2 * j + 1)) a_colours a_layouts a_gaps a_weights (fun j => a_shifts (2 * j)) (fun j => a_shifts (2 * j + 1)) a_visible a_enabled a_on a_values a_parents a_effects a_targets b_kids b_kidCount b_left b_top b_width b_height b_order b_stack a_pixels b_events a_notes := by
  have sp : ∀ x, pd_SP L x → (x < 0 ∧ pd_ovf (pd_Z T th 12) x = x) ∨ (¬ x < 0 ∧ vp_in x 12 ∧ (pd_Z T th 12 x.toNatClampNeg = 0 → pd_ovf (pd_Z T th 12) x = -1) ∧ (¬ pd_Z T th 12 x.toNatClampNeg = 0 → pd_ovf (pd_Z T th 12) x = x)) := by
    intro x hx
    rcases hx with e | ⟨w, hw, e⟩
    · refine Or.inl ⟨by rw [e]; decide, ?_⟩
      rw [e]; exact if_pos rfl
    · have hw12 := pd_12lt hL hw
      subst e
      have n1 : ¬ nI w = -1 := pd_ne1 (by omega)
      refine Or.inr ⟨nI_pos (by omega), vp_in_nI hw12 (by omega), fun z => ?_, fun z => ?_⟩
      · unfold pd_ovf; rw [if_neg n1, if_pos z]
      · unfold pd_ovf; rw [if_neg n1, if_neg z]
  intro d
  induction d with
  | zero =>
    intro j hj
    have e : j = 12 := hj
    subst e
    rw [wY_remove_72]
    refine br_t (nI_le (a := 12) (by omega) (by omega)) ?_
    have f150 : wY_remove_150 post m g_many g_waiting f_noteCount (pd_ovf (pd_Z T th 12) f_over) (pd_ovf (pd_Z T th 12) f_pressed) f_focus g_acted (pd_Z T th 12) a_kinds (fun j => a_wishedPlaces (2 * j)) (fun j => a_wishedPlaces (2 * j + 1)) (fun j => a_wishedSizes (2 * j)) (fun j => a_wishedSizes (2 * j + 1)) a_colours a_layouts a_gaps a_weights (fun j => a_shifts (2 * j)) (fun j => a_shifts (2 * j + 1)) a_visible a_enabled a_on a_values a_parents a_effects a_targets b_kids b_kidCount b_left b_top b_width b_height b_order b_stack a_pixels b_events a_notes := by
      rcases sp f_focus s3 with ⟨c, e⟩ | ⟨c, v, e1, e2⟩
      · rw [e] at h; exact br_t c h
      · by_cases z : pd_Z T th 12 f_focus.toNatClampNeg = 0
        · rw [e1 z] at h; exact br_f c ⟨v, br_t z h⟩
        · rw [e2 z] at h; exact br_f c ⟨v, br_f z h⟩
    have f126 : wY_remove_126 post m g_many g_waiting f_noteCount (pd_ovf (pd_Z T th 12) f_over) f_pressed f_focus g_acted (pd_Z T th 12) a_kinds (fun j => a_wishedPlaces (2 * j)) (fun j => a_wishedPlaces (2 * j + 1)) (fun j => a_wishedSizes (2 * j)) (fun j => a_wishedSizes (2 * j + 1)) a_colours a_layouts a_gaps a_weights (fun j => a_shifts (2 * j)) (fun j => a_shifts (2 * j + 1)) a_visible a_enabled a_on a_values a_parents a_effects a_targets b_kids b_kidCount b_left b_top b_width b_height b_order b_stack a_pixels b_events a_notes := by
      rcases sp f_pressed s2 with ⟨c, e⟩ | ⟨c, v, e1, e2⟩
      · rw [e] at f150; exact br_t c f150
      · by_cases z : pd_Z T th 12 f_pressed.toNatClampNeg = 0
        · rw [e1 z] at f150; exact br_f c ⟨v, br_t z f150⟩
        · rw [e2 z] at f150; exact br_f c ⟨v, br_f z f150⟩
    rcases sp f_over s1 with ⟨c, e⟩ | ⟨c, v, e1, e2⟩
    · rw [e] at f126; exact br_t c f126
    · by_cases z : pd_Z T th 12 f_over.toNatClampNeg = 0
      · rw [e1 z] at f126; exact br_f c ⟨v, br_t z f126⟩
      · rw [e2 z] at f126; exact br_f c ⟨v, br_f z f126⟩
  | succ d ih =>
    intro j hj
    rw [wY_remove_72]
    refine br_f (nI_ge (b := 12) (by omega) (by omega)) ?_
    have k := ih (j + 1) (by omega)
    by_cases c : bt g j = false
    · refine br_t ((pd_bt0 g (by omega)).mpr c) (nm_r (nI_1 j) ?_)
      rw [← pd_Z2 (by rw [hT j (by omega), c]; rfl)] at k
      exact k
    · have c' : bt g j = true := by
        cases z : bt g j with
        | true => rfl
        | false => exact absurd z c
      refine br_f (fun z => c ((pd_bt0 g (by omega)).mp z)) ⟨vp_in_nI (by omega) (by omega), nm_r (e' := pd_Z T th (j + 1)) ?_ (nm_r (nI_1 j) k)⟩
      rw [pd_cl (by omega), pd_b0, ← pd_Z1, hT j (by omega), c']
      rfl
end PDT
end
section
theorem pd_ovI {th pa : Nat → Int32} {L : List Nat} {rk : Nat → Nat} (H : pd_BI th pa L rk) {o : Int32} (h : pd_SP L o) : pd_ovf th o = o := by
  unfold pd_ovf
  rcases h with e | ⟨w, hw, e⟩
  · rw [if_pos e, e]
  · have hw12 := pd_12lt H.2.1 hw
    subst e
    rw [if_neg (pd_ne1 (by omega)), pd_cl (by omega), if_neg ((H.2.2.1 w hw12).mpr hw)]
theorem pd_ovS {th pa : Nat → Int32} {L L0 : List Nat} {rk : Nat → Nat} (H : pd_BI th pa L rk) (hL0 : ∀ w, w ∈ L0 → 0 < w ∧ w < 12) {o : Int32} (h : pd_SP L0 o) : pd_SP L (pd_ovf th o) := by
  unfold pd_ovf
  rcases h with e | ⟨w, hw, e⟩
  · rw [if_pos e]; exact Or.inl rfl
  · have hw12 := pd_12lt hL0 hw
    subst e
    rw [if_neg (pd_ne1 (by omega)), pd_cl (by omega)]
    by_cases z : th w = 0
    · rw [if_pos z]; exact Or.inl rfl
    · rw [if_neg z]; exact Or.inr ⟨w, (H.2.2.1 w hw12).mp z, rfl⟩
theorem i_vc_remove {k : Nat} {u : SX} {v : SY} (I : i_Rel k u v) (hk : k + 8 ≤ 4096) (v1 : Int32) : wpX_remove (fun r u' => wpY_remove (fun r' v' => r' = r ∧ i_Rel (k + 8) u' v') v v1) u v1 := by
  have I' : i_Rel (k + 8) u v := I
  obtain ⟨L, rk, M, D⟩ := I
  obtain ⟨f_stacked, f_treeSize, f_over, f_pressed, f_focus, f_waiting, f_noteCount, a_there, a_parents, a_kinds, a_colours, a_weights, a_gaps, a_layouts, a_values, a_effects, a_targets, a_visible, a_enabled, a_on, a_wishedPlaces, a_wishedSizes, a_shifts, a_stack, a_tree, a_seen, a_able, a_places, a_sizes, a_clipStarts, a_clipEnds, a_eventKinds, a_eventXs, a_eventYs, a_notes, a_pixels⟩ := u
  obtain ⟨g_many, g_waiting, g_acted, b_kids, b_kidCount, b_left, b_top, b_width, b_height, b_order, b_stack, b_events, rfl, hB, hS, hK, hV, ho, hpr, hf, hq⟩ := M
  obtain ⟨G, hG, htn, htr, hDA⟩ := D
  unfold wpX_remove
  refine px_is ?_
  by_cases c1 : pd_is a_there v1 = 0
  · refine br_t c1 ?_
    unfold wpY_remove
    exact py_is (br_t c1 ⟨rfl, I'⟩)
  · refine br_f c1 ?_
    by_cases c2 : v1 = 0
    · refine br_t c2 ?_
      unfold wpY_remove
      exact py_is (br_f c1 (br_t c2 ⟨rfl, I'⟩))
    · obtain ⟨a, ha, rfl, ht⟩ := pd_is1 c1
      have ha0 : 0 < a := Nat.pos_of_ne_zero fun z => c2 (by rw [z]; exact nI_0)
      have haL : a ∈ L := ((hB.2.2.1 a ha).mp ht).resolve_left (by omega)
      have hL := pd_len11' hB
      have hc : ∀ c, c ∈ L → c < 12 := fun c hc => (hB.2.1 c hc).2
      have hO := pd_ordW hB
      have hOl := pd_ordL hB
      have hON := pd_ordN hB
      obtain ⟨de, hd0, hd⟩ := pd_rec hB false (fun b _ c => decide (c = a) || b)
      have hth : ∀ w, (w = 0 ∨ w ∈ L) → a_there w ≠ 0 := fun w hw => (hB.2.2.1 w (pd_12lt hB.2.1 hw)).mpr hw
      have hda : de a = true := by
        obtain ⟨p, hp, ep, _⟩ := hB.2.2.2.2 a haL
        rw [hd a p haL hp ep]; simp
      have e0 : pd_tc a_there de a [] = upd a_there a 0 := by
        funext w
        by_cases e : w = a
        · subst e; rw [pd_us]; exact if_pos ⟨hda, Or.inr rfl⟩
        · rw [pd_un e]; exact if_neg (fun z => z.2.elim (fun y => by cases y) e)
      have efl : pd_fl a_there L = L := by
        unfold pd_fl
        rw [List.filter_eq_self]
        intro w hw
        rw [decide_eq_true_iff]
        exact hth w (Or.inr hw)
      refine br_f c2 (px_take ha hS hL hc (fun n st hS1 => ⟨(pd_ord a_parents L).length + 1, ?_⟩))
      have ecount : 1 + ((pd_ord a_parents L).filter (fun w => de w && decide (w ≠ a))).length = ((List.range 12).filter (fun w => decide (a_there w ≠ 0) && de w)).length := by
        rw [← pd_cnt hB de]
        have e1 : (pd_ord a_parents L).filter (fun w => de w && decide (w ≠ a)) = pd_rm ((pd_ord a_parents L).filter de) a := by
          unfold pd_rm
          rw [List.filter_filter]
          apply List.filter_congr
          intro w _
          exact Bool.and_comm _ _
        rw [e1]
        have := pd_rmlen (L := (pd_ord a_parents L).filter de) (w := a) (List.Nodup.sublist List.filter_sublist hON) (List.mem_filter.mpr ⟨(pd_ordM hB a).mpr (Or.inr haL), hda⟩)
        omega
      have key := px_rem23 (post := fun r u' => wpY_remove (fun r' v' => r' = r ∧ i_Rel (k + 8) u' v') (g_many, g_waiting, f_noteCount, f_over, f_pressed, f_focus, g_acted, a_there, a_kinds, (fun j => a_wishedPlaces (2 * j)), (fun j => a_wishedPlaces (2 * j + 1)), (fun j => a_wishedSizes (2 * j)), (fun j => a_wishedSizes (2 * j + 1)), a_colours, a_layouts, a_gaps, a_weights, (fun j => a_shifts (2 * j)), (fun j => a_shifts (2 * j + 1)), a_visible, a_enabled, a_on, a_values, a_parents, a_effects, a_targets, b_kids, b_kidCount, b_left, b_top, b_width, b_height, b_order, b_stack, a_pixels, b_events, a_notes) (nI a)) (f_waiting := f_waiting) (f_noteCount := f_noteCount) (a_kinds := a_kinds) (a_colours := a_colours) (a_weights := a_weights) (a_gaps := a_gaps) (a_layouts := a_layouts) (a_values := a_values) (a_effects := a_effects) (a_targets := a_targets) (a_visible := a_visible) (a_enabled := a_enabled) (a_on := a_on) (a_wishedPlaces := a_wishedPlaces) (a_wishedSizes := a_wishedSizes) (a_shifts := a_shifts) (a_seen := a_seen) (a_able := a_able) (a_places := a_places) (a_sizes := a_sizes) (a_clipStarts := a_clipStarts) (a_clipEnds := a_clipEnds) (a_eventKinds := a_eventKinds) (a_eventXs := a_eventXs) (a_eventYs := a_eventYs) (a_notes := a_notes) (a_pixels := a_pixels)
        hB haL hOl hd0 hd ho hpr hf (pd_ord a_parents L) [] 0 ((pd_ord a_parents L).length + 1) 1 n st htr (by omega) (by omega) hO.2 (fun w hw => (pd_ordM hB w).mp hw) (fun w hw => by cases hw) (by rw [List.nil_append]; exact hON) (by rw [e0, pd_flU, efl]; exact hS1) (fun fs' st' S' hS' hst' => ?_)
      · rw [e0, pd_ovu hB.2.1 ho ha, pd_ovu hB.2.1 hpr ha, pd_ovu hB.2.1 hf ha, pd_ovI hB ho, pd_ovI hB hpr, pd_ovI hB hf, ← htn] at key
        exact key
      · have hS2 : ∀ w, w ∈ S' ↔ w = 0 ∨ w ∈ L := fun w => by
          rw [hS' w, pd_ordM hB w]
          exact ⟨fun z => z.elim (fun y => by cases y) id, Or.inr⟩
        have htc : ∀ w, w < 12 → (pd_tc a_there de a S' w ≠ 0 ↔ a_there w ≠ 0 ∧ de w = false) := by
          intro w hw
          unfold pd_tc
          by_cases cd : de w = true ∧ (w ∈ S' ∨ w = a)
          · rw [if_pos cd, cd.1]
            exact ⟨fun z => absurd rfl z, fun z => absurd z.2 (by decide)⟩
          · rw [if_neg cd]
            refine ⟨fun z => ⟨z, ?_⟩, fun z => z.1⟩
            cases y : de w with
            | false => rfl
            | true => exact absurd ⟨y, Or.inl ((hS2 w).mpr ((hB.2.2.1 w hw).mp z))⟩ cd
        obtain ⟨hB', hkd⟩ := pd_BId hB hd0 hd htc
        have efl' : pd_fl (pd_tc a_there de a S') L = L.filter (fun w => !de w) := by
          unfold pd_fl
          apply List.filter_congr
          intro w hw
          have := htc w (hc w hw)
          by_cases z : de w = true
          · rw [z]
            rw [decide_eq_false]
            · rfl
            · intro y
              rw [(this.mp y).2] at z
              exact absurd z (by decide)
          · have z' : de w = false := by
              cases y : de w with
              | false => rfl
              | true => exact absurd y z
            rw [z', decide_eq_true (this.mpr ⟨hth w (Or.inr hw), z'⟩)]
            rfl
        rw [efl'] at hst'
        refine px_settle hB' hst' hV (fun tn tr se ab pl sz cs ce hD => ?_)
        unfold wpY_remove
        obtain ⟨p, hp, ep, _⟩ := hB.2.2.2.2 a haL
        have hp12 := pd_12lt hB.2.1 hp
        have hKl : ∀ q, (pd_kd a_parents L q).length ≤ 11 := fun q => Nat.le_trans (List.length_filter_le _ _) hL
        obtain ⟨hk1, hk2⟩ := hK p hp
        refine py_is (br_f c1 (br_f c2 (py_take ha hp12 (by have := hKl p; omega) ep hk1 hk2 (fun c hc' => hc c (pd_mkd.mp hc').1) (fun ki s1 s2 => ⟨13, ?_⟩))))
        refine py_rem26 hB haL hd0 hd (fun g hg => ⟨13, ?_⟩) 12 0 0 0 rfl rfl (fun l _ => by rw [b_0]; simp)
        have hZ : pd_Z (fun l => if bt g l = true then 0 else a_there l) a_there 12 = pd_tc a_there de a S' := by
          funext w
          unfold pd_Z
          by_cases hw : w < 12
          · rw [if_pos hw]
            dsimp only
            rw [hg w hw]
            by_cases z : a_there w = 0
            · have y : ¬ pd_tc a_there de a S' w ≠ 0 := fun x => ((htc w hw).mp x).1 z
              rw [z, Classical.not_not.mp y]
              simp
            · by_cases y : de w = true
              · rw [y, decide_eq_true z]
                have x : ¬ pd_tc a_there de a S' w ≠ 0 := fun x => by
                  have := ((htc w hw).mp x).2
                  rw [y] at this
                  exact absurd this (by decide)
                rw [Classical.not_not.mp x]
                rfl
              · rw [if_neg (fun x => y (Bool.and_eq_true _ _ ▸ x).2)]
                exact (if_neg (fun x => y x.1)).symm
          · rw [if_neg hw]
            refine (if_neg (fun x => ?_)).symm
            have : w = 0 ∨ w ∈ L := x.2.elim (fun y => (hS2 w).mp y) (fun y => Or.inr (y ▸ haL))
            exact hw (pd_12lt hB.2.1 this)
        have fin := py_rem72 (post := fun r' v' => r' = nI (1 + ((pd_ord a_parents L).filter (fun w => de w && decide (w ≠ a))).length) ∧ i_Rel (k + 8) (fs', tn, pd_ovf (pd_tc a_there de a S') f_over, pd_ovf (pd_tc a_there de a S') f_pressed, pd_ovf (pd_tc a_there de a S') f_focus, f_waiting, f_noteCount, pd_tc a_there de a S', a_parents, a_kinds, a_colours, a_weights, a_gaps, a_layouts, a_values, a_effects, a_targets, a_visible, a_enabled, a_on, a_wishedPlaces, a_wishedSizes, a_shifts, st', tr, se, ab, pl, sz, cs, ce, a_eventKinds, a_eventXs, a_eventYs, a_notes, a_pixels) v')
          (m := nI ((List.range 12).filter (fun w => decide (a_there w ≠ 0) && de w)).length) (g := g) (th := a_there) (g_many := g_many) (g_waiting := g_waiting) (g_acted := g_acted) (f_noteCount := f_noteCount) (f_over := f_over) (f_pressed := f_pressed) (f_focus := f_focus) (a_kinds := a_kinds) (a_colours := a_colours) (a_weights := a_weights) (a_gaps := a_gaps) (a_layouts := a_layouts) (a_values := a_values) (a_effects := a_effects) (a_targets := a_targets) (a_visible := a_visible) (a_enabled := a_enabled) (a_on := a_on) (a_wishedPlaces := a_wishedPlaces) (a_wishedSizes := a_wishedSizes) (a_shifts := a_shifts) (a_parents := a_parents) (a_notes := a_notes) (a_pixels := a_pixels) (b_kids := ki) (b_kidCount := upd b_kidCount p (nI (pd_rm (pd_kd a_parents L p) a).length)) (b_left := b_left) (b_top := b_top) (b_width := b_width) (b_height := b_height) (b_order := b_order) (b_stack := b_stack) (b_events := b_events)
          hB.2.1 ho hpr hf (fun l => if bt g l = true then 0 else a_there l) (fun l _ => rfl) ?_ 12 0 rfl
        · rw [pd_Z0] at fin
          exact fin
        · rw [hZ]
          refine ⟨by rw [ecount], ?_⟩
          have hK' : pd_KD a_parents (upd b_kidCount p (nI (pd_rm (pd_kd a_parents L p) a).length)) ki (L.filter (fun w => !de w)) := by
            intro q hq'
            have hq2 : (q = 0 ∨ q ∈ L) ∧ de q = false := by
              rcases hq' with z | z
              · exact ⟨Or.inl z, z ▸ hd0⟩
              · rw [List.mem_filter] at z
                exact ⟨Or.inr z.1, by simpa using z.2⟩
            rw [hkd q hq2.1 hq2.2]
            by_cases e : q = p
            · subst e; rw [pd_us]; exact ⟨rfl, s1⟩
            · have hne : a ∉ pd_kd a_parents L q := fun z => e (pd_im ((pd_mkd.mp z).2.symm.trans ep) (by have := pd_12lt hB.2.1 hq2.1; omega) (by omega))
              rw [pd_un e, pd_rm0 hne]
              exact ⟨(hK q hq2.1).1, pd_KDf e (by have := hKl q; omega) s2 (hK q hq2.1).2⟩
          exact pd_mk hB' hst' hK' hV (pd_ovS hB' hB.2.1 ho) (pd_ovS hB' hB.2.1 hpr) (pd_ovS hB' hB.2.1 hf) hq hD
end
section
section PDU
variable {f_stacked f_treeSize f_over f_pressed f_focus f_waiting f_noteCount : Int32} {a_there a_parents a_kinds a_colours a_weights a_gaps a_layouts a_values a_effects a_targets a_visible a_enabled a_on a_wishedPlaces a_wishedSizes a_shifts a_stack a_tree a_seen a_able a_places a_sizes a_clipStarts a_clipEnds a_eventKinds a_eventXs a_eventYs a_notes a_pixels : Nat → Int32}
variable {g_many g_waiting g_acted : Int32} {b_kids b_kidCount b_left b_top b_width b_height b_order b_stack b_events : Nat → Int32}
/-! the drawing -/
theorem px_shade {post : Int32 → Prop} {w : Nat} {G : Nat → pd_V} (hw : w < 12) (ea : a_able w = (G w).2.2.2.1) (h : post (pd_shd a_kinds a_on a_colours f_pressed f_over G w)) : wpX_shadeOf post (f_stacked, f_treeSize, f_over, f_pressed, f_focus, f_waiting, f_noteCount, a_there, a_parents, a_kinds, a_colours, a_weights, a_gaps, a_layouts, a_values, a_effects, a_targets, a_visible, a_enabled, a_on, a_wishedPlaces, a_wishedSizes, a_shifts, a_stack, a_tree, a_seen, a_able, a_places, a_sizes, a_clipStarts, a_clipEnds, a_eventKinds, a_eventXs, a_eventYs, a_notes, a_pixels) (nI w) := by
  have vw : vp_in (nI w) 12 := vp_in_nI hw (by omega)
  have cw : (nI w).toNatClampNeg = w := pd_cl (by omega)
  have f79 : ∀ x2, x2 = (if (a_kinds w = 2 ∧ ¬ a_on w = 0) ∨ (a_kinds w = 1 ∧ f_pressed = nI w ∧ f_over = nI w) then a_colours w ^^^ 8 else a_colours w) → wX_shadeOf_79 post (nI w) x2 f_stacked f_treeSize f_over f_pressed f_focus f_waiting f_noteCount a_there a_parents a_kinds a_colours a_weights a_gaps a_layouts a_values a_effects a_targets a_visible a_enabled a_on a_wishedPlaces a_wishedSizes a_shifts a_stack a_tree a_seen a_able a_places a_sizes a_clipStarts a_clipEnds a_eventKinds a_eventXs a_eventYs a_notes a_pixels := by
    intro x2 e2
    unfold pd_shd at h
    rw [← e2] at h
    refine ⟨vw, ?_⟩
    rw [cw, ea]
    by_cases c : (G w).2.2.2.1 = 0
    · rw [if_pos c] at h; exact br_t c (nm_e h)
    · rw [if_neg c] at h; exact br_f c h
  have f74 : ((a_kinds w = 2 ∧ ¬ a_on w = 0) ∨ (a_kinds w = 1 ∧ f_pressed = nI w ∧ f_over = nI w)) → wX_shadeOf_74 post (nI w) (a_colours w) f_stacked f_treeSize f_over f_pressed f_focus f_waiting f_noteCount a_there a_parents a_kinds a_colours a_weights a_gaps a_layouts a_values a_effects a_targets a_visible a_enabled a_on a_wishedPlaces a_wishedSizes a_shifts a_stack a_tree a_seen a_able a_places a_sizes a_clipStarts a_clipEnds a_eventKinds a_eventXs a_eventYs a_notes a_pixels := fun c => nm_e (f79 _ (by rw [if_pos c]))
  have f31 : ∀ z0, (z0 = 1 ∧ (a_kinds w = 2 ∧ ¬ a_on w = 0)) ∨ (z0 = 0 ∧ ¬ (a_kinds w = 2 ∧ ¬ a_on w = 0)) → wX_shadeOf_31 post (nI w) (a_colours w) z0 f_stacked f_treeSize f_over f_pressed f_focus f_waiting f_noteCount a_there a_parents a_kinds a_colours a_weights a_gaps a_layouts a_values a_effects a_targets a_visible a_enabled a_on a_wishedPlaces a_wishedSizes a_shifts a_stack a_tree a_seen a_able a_places a_sizes a_clipStarts a_clipEnds a_eventKinds a_eventXs a_eventYs a_notes a_pixels := by
    intro z0 hz
    have f62 : ¬ (a_kinds w = 1 ∧ f_pressed = nI w ∧ f_over = nI w) → wX_shadeOf_62 post (nI w) (a_colours w) z0 f_stacked f_treeSize f_over f_pressed f_focus f_waiting f_noteCount a_there a_parents a_kinds a_colours a_weights a_gaps a_layouts a_values a_effects a_targets a_visible a_enabled a_on a_wishedPlaces a_wishedSizes a_shifts a_stack a_tree a_seen a_able a_places a_sizes a_clipStarts a_clipEnds a_eventKinds a_eventXs a_eventYs a_notes a_pixels := by
      intro hn
      rcases hz with ⟨e, c⟩ | ⟨e, c⟩
      · exact br_f (by rw [e]; decide) (f74 (Or.inl c))
      · exact br_t e (br_t rfl (f79 _ (by rw [if_neg (fun z => z.elim c hn)])))
    refine ⟨vw, ?_⟩
    rw [cw]
    by_cases k1 : a_kinds w = 1
    · refine br_t k1 ?_
      by_cases k2 : f_pressed = nI w
      · refine br_t k2 ?_
        by_cases k3 : f_over = nI w
        · refine br_t k3 ?_
          have t := f74 (Or.inr ⟨k1, k2, k3⟩)
          exact br_c (fun _ => br_f (by decide) t) (fun _ => t)
        · exact br_f k3 (f62 (fun z => k3 z.2.2))
      · exact br_f k2 (f62 (fun z => k2 z.2.1))
    · exact br_f k1 (f62 (fun z => k1 z.1))
  refine ⟨vw, nm_r (e' := a_colours w) (by rw [cw]) ⟨vw, ?_⟩⟩
  rw [cw]
  by_cases k2 : a_kinds w = 2
  · refine br_t k2 ⟨vw, ?_⟩
    by_cases k3 : a_on w = 0
    · exact br_t k3 (f31 0 (Or.inr ⟨rfl, fun z => z.2 k3⟩))
    · exact br_f k3 (f31 1 (Or.inl ⟨rfl, k2, k3⟩))
  · exact br_f k2 (f31 0 (Or.inr ⟨rfl, fun z => k2 z.1⟩))
theorem px_rim {post : Int32 → Prop} {w : Nat} {x y : Int32} {G : Nat → pd_V} (hw : w < 12) (hP : pd_PA G a_places a_sizes w) (h1 : pd_rim (G w) x y → post 1) (h0 : ¬ pd_rim (G w) x y → post 0) : wpX_isRim post (f_stacked, f_treeSize, f_over, f_pressed, f_focus, f_waiting, f_noteCount, a_there, a_parents, a_kinds, a_colours, a_weights, a_gaps, a_layouts, a_values, a_effects, a_targets, a_visible, a_enabled, a_on, a_wishedPlaces, a_wishedSizes, a_shifts, a_stack, a_tree, a_seen, a_able, a_places, a_sizes, a_clipStarts, a_clipEnds, a_eventKinds, a_eventXs, a_eventYs, a_notes, a_pixels) (nI w) x y := by
  have v0 : vp_in (2 * nI w) 24 := by rw [pd_2]; exact vp_in_nI (by omega) (by omega)
  have c0 : (2 * nI w).toNatClampNeg = 2 * w + 0 := by rw [pd_2]; exact pd_cl (by omega)
  have v1 : vp_in (2 * nI w + 1) 24 := by rw [pd_21]; exact vp_in_nI (by omega) (by omega)
  have c1 : (2 * nI w + 1).toNatClampNeg = 2 * w + 1 := by rw [pd_21]; exact pd_cl (by omega)
  obtain ⟨a1, a2⟩ := hP 0 (by omega)
  obtain ⟨a3, a4⟩ := hP 1 (by omega)
  refine ⟨v0, nm_r (e' := (G w).1 0) (by rw [c0, a1]) ⟨v1, nm_r (e' := (G w).1 1) (by rw [c1, a3]) ?_⟩⟩
  rw [c0, c1, a2, a4]
  by_cases b1 : x = (G w).1 0
  · exact br_t b1 (h1 (Or.inl b1))
  · by_cases b2 : x = (G w).1 0 + (G w).2.1 0 - 1
    · exact br_f b1 ⟨v0, br_t b2 (h1 (Or.inr (Or.inl b2)))⟩
    · by_cases b3 : y = (G w).1 1
      · exact br_f b1 ⟨v0, br_f b2 (br_t b3 (h1 (Or.inr (Or.inr (Or.inl b3)))))⟩
      · by_cases b4 : y = (G w).1 1 + (G w).2.1 1 - 1
        · exact br_f b1 ⟨v0, br_f b2 (br_f b3 ⟨v1, br_t b4 (h1 (Or.inr (Or.inr (Or.inr b4))))⟩)⟩
        · exact br_f b1 ⟨v0, br_f b2 (br_f b3 ⟨v1, br_f b4 (h0 (fun z => z.elim b1 (fun z => z.elim b2 (fun z => z.elim b3 b4))))⟩)⟩
theorem pd_1d (q : Nat) : (32 * (q / 32) + q % 32) = q := by omega
theorem px_dw41 {post : SX → Prop} {J : _} {w i s0 : Nat} {G : Nat → pd_V} {T p : Nat → Int32} (hw : w < 12) (hi : i < 16) (hD : pd_DA G a_seen a_able a_places a_sizes a_clipStarts a_clipEnds w) (hs : ¬ (G w).2.2.1 = 0)
    (hc0 : (G w).2.2.2.2.2 0 ≤ 32) (h1 : (G w).2.2.2.2.1 1 ≤ nI i) (h2 : nI i < (G w).2.2.2.2.2 1) (es0 : (G w).2.2.2.2.1 0 = nI s0) (hs0 : s0 < 2 ^ 31)
    (hT : ∀ q, T q = pd_px1 a_kinds a_on a_colours f_pressed f_over f_focus G w (nI (q % 32)) (nI (q / 32)) (p q))
    (hJ : J (nI (i + 1)) a_there a_parents a_kinds a_colours a_weights a_gaps a_layouts a_values a_effects a_targets a_visible a_enabled a_on a_wishedPlaces a_wishedSizes a_shifts a_stack a_tree a_seen a_able a_places a_sizes a_clipStarts a_clipEnds a_eventKinds a_eventXs a_eventYs a_notes (pd_A (fun q => pd_in (G w) (nI (q % 32)) (nI (q / 32))) T p (i + 1) s0)) :
    ∀ (m j n : Nat), 32 ≤ j + m → m < n → s0 ≤ j → j < 2 ^ 31 → wX_drawWidget_41 post J (nI w) (pd_shd a_kinds a_on a_colours f_pressed f_over G w) (nI i) f_stacked f_treeSize f_over f_pressed f_focus f_waiting f_noteCount n (nI j) a_there a_parents a_kinds a_colours a_weights a_gaps a_layouts a_values a_effects a_targets a_visible a_enabled a_on a_wishedPlaces a_wishedSizes a_shifts a_stack a_tree a_seen a_able a_places a_sizes a_clipStarts a_clipEnds a_eventKinds a_eventXs a_eventYs a_notes (pd_A (fun q => pd_in (G w) (nI (q % 32)) (nI (q / 32))) T p i j) := by
  have v0 : vp_in (2 * nI w) 24 := by rw [pd_2]; exact vp_in_nI (by omega) (by omega)
  have c0 : (2 * nI w).toNatClampNeg = 2 * w + 0 := by rw [pd_2]; exact pd_cl (by omega)
  have e0 : a_clipEnds (2 * w + 0) = (G w).2.2.2.2.2 0 := (hD.1 0 (by omega)).2.2.2
  have vw : vp_in (nI w) 12 := vp_in_nI hw (by omega)
  have cw : (nI w).toNatClampNeg = w := pd_cl (by omega)
  have hP : pd_PA G a_places a_sizes w := fun a ha => ⟨(hD.1 a ha).1, (hD.1 a ha).2.1⟩
  have exit : ∀ j n, j < 2 ^ 31 → (G w).2.2.2.2.2 0 ≤ nI j → wX_drawWidget_41 post J (nI w) (pd_shd a_kinds a_on a_colours f_pressed f_over G w) (nI i) f_stacked f_treeSize f_over f_pressed f_focus f_waiting f_noteCount (n + 1) (nI j) a_there a_parents a_kinds a_colours a_weights a_gaps a_layouts a_values a_effects a_targets a_visible a_enabled a_on a_wishedPlaces a_wishedSizes a_shifts a_stack a_tree a_seen a_able a_places a_sizes a_clipStarts a_clipEnds a_eventKinds a_eventXs a_eventYs a_notes (pd_A (fun q => pd_in (G w) (nI (q % 32)) (nI (q / 32))) T p i j) := by
    intro j n hj hx
    rw [wX_drawWidget_41]
    dsimp only
    rw [c0, e0]
    refine ⟨v0, br_t hx (nm_r (nI_1 i) ?_)⟩
    have e : pd_A (fun q => pd_in (G w) (nI (q % 32)) (nI (q / 32))) T p i j = pd_A (fun q => pd_in (G w) (nI (q % 32)) (nI (q / 32))) T p (i + 1) s0 := by
      refine pd_Ac _ (fun q hq hR => ?_)
      obtain ⟨r1, r2, r3, r4⟩ := hR
      have q1 : q % 32 < j := (nI_ltI (by omega) hj).mp (Int32.lt_of_lt_of_le r2 hx)
      have q2 : s0 ≤ q % 32 := (nI_leI hs0 (by omega)).mp (es0 ▸ r1)
      omega
    rw [e]
    exact hJ
  intro m
  induction m with
  | zero =>
    intro j n hm hn _ hj
    obtain ⟨n, rfl⟩ : ∃ k, n = k + 1 := ⟨n - 1, by omega⟩
    exact exit j n hj (Int32.le_trans hc0 (nI_le (a := 32) (by omega) hj))
  | succ m ih =>
    intro j n hm hn hsj hj
    obtain ⟨n, rfl⟩ : ∃ k, n = k + 1 := ⟨n - 1, by omega⟩
    by_cases hx : (G w).2.2.2.2.2 0 ≤ nI j
    · exact exit j n hj hx
    · have hlt := Int32.not_le.mp hx
      have hj32 : j < 32 := (nI_ltI (b := 32) hj (by omega)).mp (Int32.lt_of_lt_of_le hlt hc0)
      have eq1 : (32 * i + j) % 32 = j := by omega
      have eq2 : (32 * i + j) / 32 = i := by omega
      have hin : pd_in (G w) (nI j) (nI i) := ⟨by rw [es0]; exact nI_le hsj hj, hlt, h1, h2⟩
      have hR : (fun q => pd_in (G w) (nI (q % 32)) (nI (q / 32))) (32 * i + j) := by
        show pd_in (G w) (nI ((32 * i + j) % 32)) (nI ((32 * i + j) / 32))
        rw [eq1, eq2]; exact hin
      have hTq : T (32 * i + j) = (if f_focus = nI w ∧ pd_rim (G w) (nI j) (nI i) then 15 else if a_colours w = 0 then p (32 * i + j) else pd_shd a_kinds a_on a_colours f_pressed f_over G w) := by
        rw [hT, eq1, eq2]
        unfold pd_px1
        rw [if_pos ⟨hs, hin⟩]
      have k := ih (j + 1) n (by omega) (by omega) (by omega) (by omega)
      have e5 : 32 * nI i + nI j = nI (32 * i + j) := by rw [show (32 : Int32) = nI 32 from rfl, pd_mul, nI_add]
      have v5 : vp_in (32 * nI i + nI j) 512 := by rw [e5]; exact vp_in_nI (by omega) (by omega)
      have c5 : (32 * nI i + nI j).toNatClampNeg = 32 * i + j := by rw [e5]; exact pd_cl (by omega)
      have f90 : ¬ (f_focus = nI w ∧ pd_rim (G w) (nI j) (nI i)) → wX_drawWidget_90 post J (wX_drawWidget_41 post J (nI w) (pd_shd a_kinds a_on a_colours f_pressed f_over G w) (nI i) f_stacked f_treeSize f_over f_pressed f_focus f_waiting f_noteCount n) (nI w) (pd_shd a_kinds a_on a_colours f_pressed f_over G w) (nI i) (nI j) f_stacked f_treeSize f_over f_pressed f_focus f_waiting f_noteCount a_there a_parents a_kinds a_colours a_weights a_gaps a_layouts a_values a_effects a_targets a_visible a_enabled a_on a_wishedPlaces a_wishedSizes a_shifts a_stack a_tree a_seen a_able a_places a_sizes a_clipStarts a_clipEnds a_eventKinds a_eventXs a_eventYs a_notes (pd_A (fun q => pd_in (G w) (nI (q % 32)) (nI (q / 32))) T p i j) := by
        intro hn
        rw [if_neg hn] at hTq
        refine ⟨vw, ?_⟩
        rw [cw]
        by_cases cc : a_colours w = 0
        · rw [if_pos cc] at hTq
          refine br_t cc (nm_r (nI_1 j) ?_)
          rw [pd_A2 _ hi hj32 hTq]
          exact k
        · rw [if_neg cc] at hTq
          refine br_f cc ⟨v5, nm_r (e' := pd_A (fun q => pd_in (G w) (nI (q % 32)) (nI (q / 32))) T p i (j + 1)) ?_ (nm_r (nI_1 j) k)⟩
          rw [c5, ← pd_A1 _ hi hj32 hR, hTq]
      rw [wX_drawWidget_41]
      dsimp only
      rw [c0, e0]
      refine ⟨v0, br_f hx ?_⟩
      by_cases cf : f_focus = nI w
      · refine br_t cf (px_rim (G := G) hw hP (fun z => br_f (by decide) ⟨v5, nm_r (e' := pd_A (fun q => pd_in (G w) (nI (q % 32)) (nI (q / 32))) T p i (j + 1)) ?_ (nm_r (nI_1 j) k)⟩) (fun z => br_t rfl (f90 (fun y => z y.2))))
        rw [if_pos ⟨cf, z⟩] at hTq
        rw [c5, ← pd_A1 _ hi hj32 hR, hTq]
      · exact br_f cf (f90 (fun y => cf y.1))
theorem px_dw {post : SX → Prop} {w : Nat} {L : List Nat} {rk : Nat → Nat} {G : Nat → pd_V} (H : pd_BI a_there a_parents L rk) (hG : pd_LE a_parents a_wishedPlaces a_wishedSizes a_shifts a_visible a_enabled a_layouts a_gaps a_weights L G) (hV : pd_VA a_wishedPlaces a_wishedSizes a_weights a_layouts a_targets a_shifts) (hw : w = 0 ∨ w ∈ L)
    (hD : pd_DA G a_seen a_able a_places a_sizes a_clipStarts a_clipEnds w) (hs : ¬ (G w).2.2.1 = 0)
    (h : post (f_stacked, f_treeSize, f_over, f_pressed, f_focus, f_waiting, f_noteCount, a_there, a_parents, a_kinds, a_colours, a_weights, a_gaps, a_layouts, a_values, a_effects, a_targets, a_visible, a_enabled, a_on, a_wishedPlaces, a_wishedSizes, a_shifts, a_stack, a_tree, a_seen, a_able, a_places, a_sizes, a_clipStarts, a_clipEnds, a_eventKinds, a_eventXs, a_eventYs, a_notes, (fun q => if q < 512 then pd_px1 a_kinds a_on a_colours f_pressed f_over f_focus G w (nI (q % 32)) (nI (q / 32)) (a_pixels q) else a_pixels q))) : wpX_drawWidget post (f_stacked, f_treeSize, f_over, f_pressed, f_focus, f_waiting, f_noteCount, a_there, a_parents, a_kinds, a_colours, a_weights, a_gaps, a_layouts, a_values, a_effects, a_targets, a_visible, a_enabled, a_on, a_wishedPlaces, a_wishedSizes, a_shifts, a_stack, a_tree, a_seen, a_able, a_places, a_sizes, a_clipStarts, a_clipEnds, a_eventKinds, a_eventXs, a_eventYs, a_notes, a_pixels) (nI w) := by
  have hw12 := pd_12lt H.2.1 hw
  obtain ⟨⟨z0, z1, z2, z3⟩, _⟩ := hV
  obtain ⟨g1, g2⟩ := pd_LEc H hG 0 0 32 z0 (by rw [z0, z2]; decide) w hw
  obtain ⟨g3, g4⟩ := pd_LEc H hG 1 0 16 z1 (by rw [z1, z3]; decide) w hw
  obtain ⟨s0, hs0, es0⟩ := nI_of (Int32.not_lt.mpr g1)
  obtain ⟨s1, hs1, es1⟩ := nI_of (Int32.not_lt.mpr g3)
  have v0 : vp_in (2 * nI w) 24 := by rw [pd_2]; exact vp_in_nI (by omega) (by omega)
  have c0 : (2 * nI w).toNatClampNeg = 2 * w + 0 := by rw [pd_2]; exact pd_cl (by omega)
  have v1 : vp_in (2 * nI w + 1) 24 := by rw [pd_21]; exact vp_in_nI (by omega) (by omega)
  have c1 : (2 * nI w + 1).toNatClampNeg = 2 * w + 1 := by rw [pd_21]; exact pd_cl (by omega)
  have k0 := (hD.1 0 (by omega)).2.2.1
  have k1 := (hD.1 1 (by omega)).2.2
  have T0 : ∀ q, (fun q => pd_px1 a_kinds a_on a_colours f_pressed f_over f_focus G w (nI (q % 32)) (nI (q / 32)) (a_pixels q)) q = pd_px1 a_kinds a_on a_colours f_pressed f_over f_focus G w (nI (q % 32)) (nI (q / 32)) (a_pixels q) := fun q => rfl
  have out : ∀ (m i n : Nat), 16 ≤ i + m → m < n → s1 ≤ i → i < 2 ^ 31 → wX_drawWidget_17 post (nI w) (pd_shd a_kinds a_on a_colours f_pressed f_over G w) f_stacked f_treeSize f_over f_pressed f_focus f_waiting f_noteCount n (nI i) a_there a_parents a_kinds a_colours a_weights a_gaps a_layouts a_values a_effects a_targets a_visible a_enabled a_on a_wishedPlaces a_wishedSizes a_shifts a_stack a_tree a_seen a_able a_places a_sizes a_clipStarts a_clipEnds a_eventKinds a_eventXs a_eventYs a_notes (pd_A (fun q => pd_in (G w) (nI (q % 32)) (nI (q / 32))) (fun q => pd_px1 a_kinds a_on a_colours f_pressed f_over f_focus G w (nI (q % 32)) (nI (q / 32)) (a_pixels q)) a_pixels i s0) := by
    have exit : ∀ i n, i < 2 ^ 31 → (G w).2.2.2.2.2 1 ≤ nI i → wX_drawWidget_17 post (nI w) (pd_shd a_kinds a_on a_colours f_pressed f_over G w) f_stacked f_treeSize f_over f_pressed f_focus f_waiting f_noteCount (n + 1) (nI i) a_there a_parents a_kinds a_colours a_weights a_gaps a_layouts a_values a_effects a_targets a_visible a_enabled a_on a_wishedPlaces a_wishedSizes a_shifts a_stack a_tree a_seen a_able a_places a_sizes a_clipStarts a_clipEnds a_eventKinds a_eventXs a_eventYs a_notes (pd_A (fun q => pd_in (G w) (nI (q % 32)) (nI (q / 32))) (fun q => pd_px1 a_kinds a_on a_colours f_pressed f_over f_focus G w (nI (q % 32)) (nI (q / 32)) (a_pixels q)) a_pixels i s0) := by
      intro i n hi hx
      rw [wX_drawWidget_17]
      dsimp only
      rw [c1, k1.2]
      refine ⟨v1, br_t hx ?_⟩
      have e9 := pd_A9 (fun q => pd_in (G w) (nI (q % 32)) (nI (q / 32))) (T := fun q => pd_px1 a_kinds a_on a_colours f_pressed f_over f_focus G w (nI (q % 32)) (nI (q / 32)) (a_pixels q)) (p := a_pixels) (i := i) (j := s0) (fun q hq hR => (nI_ltI (by omega) hi).mp (Int32.lt_of_lt_of_le hR.2.2.2 hx)) (fun q hq hR => by
        show pd_px1 a_kinds a_on a_colours f_pressed f_over f_focus G w (nI (q % 32)) (nI (q / 32)) (a_pixels q) = a_pixels q
        unfold pd_px1
        exact if_neg (fun y => hR y.2))
      rw [e9]
      exact h
    intro m
    induction m with
    | zero =>
      intro i n hm hn _ hi
      obtain ⟨n, rfl⟩ : ∃ k, n = k + 1 := ⟨n - 1, by omega⟩
      exact exit i n hi (Int32.le_trans g4 (nI_le (a := 16) (by omega) hi))
    | succ m ih =>
      intro i n hm hn hsi hi
      obtain ⟨n, rfl⟩ : ∃ k, n = k + 1 := ⟨n - 1, by omega⟩
      by_cases hx : (G w).2.2.2.2.2 1 ≤ nI i
      · exact exit i n hi hx
      · have hlt := Int32.not_le.mp hx
        have hi16 : i < 16 := (nI_ltI (b := 16) hi (by omega)).mp (Int32.lt_of_lt_of_le hlt g4)
        rw [wX_drawWidget_17]
        dsimp only
        rw [c1, k1.2]
        refine ⟨v1, br_f hx ⟨v0, nm_r (e' := nI s0) (by rw [c0, k0, es0]) ⟨33, ?_⟩⟩⟩
        exact px_dw41 (G := G) hw12 hi16 hD hs g2 (by rw [es1]; exact nI_le hsi hi) hlt es0 hs0 T0 (ih (i + 1) n (by omega) (by omega) (by omega) (by omega)) 32 s0 33 (by omega) (by omega) (Nat.le_refl _) hs0
  unfold wpX_drawWidget
  refine px_shade (G := G) hw12 hD.2.2 ⟨v1, nm_r (e' := nI s1) (by rw [c1, k1.1, es1]) ⟨17, ?_⟩⟩
  have k := out 16 s1 17 (by omega) (by omega) (Nat.le_refl _) hs1
  have e0 := pd_A0 (fun q => pd_in (G w) (nI (q % 32)) (nI (q / 32))) (T := fun q => pd_px1 a_kinds a_on a_colours f_pressed f_over f_focus G w (nI (q % 32)) (nI (q / 32)) (a_pixels q)) (p := a_pixels) (i := s1) (j := s0) (fun q hq hR => ⟨(nI_leI hs1 (by omega)).mp (es1 ▸ hR.2.2.1), (nI_leI hs0 (by omega)).mp (es0 ▸ hR.1)⟩)
  rw [e0] at k
  exact k
end PDU
end
section
section PDV
variable {f_stacked f_treeSize f_over f_pressed f_focus f_waiting f_noteCount : Int32} {a_there a_parents a_kinds a_colours a_weights a_gaps a_layouts a_values a_effects a_targets a_visible a_enabled a_on a_wishedPlaces a_wishedSizes a_shifts a_stack a_tree a_seen a_able a_places a_sizes a_clipStarts a_clipEnds a_eventKinds a_eventXs a_eventYs a_notes a_pixels : Nat → Int32}
variable {g_many g_waiting g_acted : Int32} {b_kids b_kidCount b_left b_top b_width b_height b_order b_stack b_events : Nat → Int32}
theorem px_draw24 {post : SX → Prop} {L : List Nat} {rk : Nat → Nat} {G : Nat → pd_V} {N : Nat} (H : pd_BI a_there a_parents L rk) (hG : pd_LE a_parents a_wishedPlaces a_wishedSizes a_shifts a_visible a_enabled a_layouts a_gaps a_weights L G) (hV : pd_VA a_wishedPlaces a_wishedSizes a_weights a_layouts a_targets a_shifts) (hN : N ≤ 12)
    (hD : ∀ w, (w = 0 ∨ w ∈ L) → pd_DA G a_seen a_able a_places a_sizes a_clipStarts a_clipEnds w) :
    ∀ (R : List Nat) (i n : Nat) (px : Nat → Int32), pd_sg a_tree i R → i + R.length = N → R.length < n → (∀ w, w ∈ R → w = 0 ∨ w ∈ L) →
    post (f_stacked, nI N, f_over, f_pressed, f_focus, f_waiting, f_noteCount, a_there, a_parents, a_kinds, a_colours, a_weights, a_gaps, a_layouts, a_values, a_effects, a_targets, a_visible, a_enabled, a_on, a_wishedPlaces, a_wishedSizes, a_shifts, a_stack, a_tree, a_seen, a_able, a_places, a_sizes, a_clipStarts, a_clipEnds, a_eventKinds, a_eventXs, a_eventYs, a_notes, (fun q => if q < 512 then pd_px a_kinds a_on a_colours f_pressed f_over f_focus G (nI (q % 32)) (nI (q / 32)) R (px q) else px q)) →
    wX_draw_24 post n (nI i) f_stacked (nI N) f_over f_pressed f_focus f_waiting f_noteCount a_there a_parents a_kinds a_colours a_weights a_gaps a_layouts a_values a_effects a_targets a_visible a_enabled a_on a_wishedPlaces a_wishedSizes a_shifts a_stack a_tree a_seen a_able a_places a_sizes a_clipStarts a_clipEnds a_eventKinds a_eventXs a_eventYs a_notes px := by
  intro R
  induction R with
  | nil =>
    intro i n px _ hi hn _ h
    obtain ⟨n, rfl⟩ : ∃ m, n = m + 1 := ⟨n - 1, by omega⟩
    rw [wX_draw_24]
    have hi' : i = N := hi
    have e : (fun q => if q < 512 then pd_px a_kinds a_on a_colours f_pressed f_over f_focus G (nI (q % 32)) (nI (q / 32)) [] (px q) else px q) = px := by
      funext q
      by_cases c : q < 512
      · rw [if_pos c]; rfl
      · rw [if_neg c]
    rw [e] at h
    exact br_t (by rw [hi']; exact Int32.le_refl _) h
  | cons w R ih =>
    intro i n px hs hi hn hR h
    obtain ⟨n, rfl⟩ : ∃ m, n = m + 1 := ⟨n - 1, by omega⟩
    rw [List.length_cons] at hi hn
    have hw := hR w (List.mem_cons_self ..)
    have hw12 := pd_12lt H.2.1 hw
    have es : a_tree (nI i).toNatClampNeg = nI w := by rw [pd_cl (by omega)]; exact hs.1
    have hR' : ∀ v, v ∈ R → v = 0 ∨ v ∈ L := fun v hv => hR v (List.mem_cons_of_mem _ hv)
    rw [wX_draw_24]
    dsimp only
    rw [es, pd_cl (n := w) (by omega), (hD w hw).2.1]
    refine br_f (nI_ge (by omega) (by omega)) ⟨vp_in_nI (by omega) (by omega), vp_in_nI hw12 (by omega), ?_⟩
    by_cases c : (G w).2.2.1 = 0
    · refine br_t c (nm_r (nI_1 i) (ih (i + 1) n px hs.2 (by omega) (by omega) hR' ?_))
      have e : (fun q => if q < 512 then pd_px a_kinds a_on a_colours f_pressed f_over f_focus G (nI (q % 32)) (nI (q / 32)) (w :: R) (px q) else px q) = (fun q => if q < 512 then pd_px a_kinds a_on a_colours f_pressed f_over f_focus G (nI (q % 32)) (nI (q / 32)) R (px q) else px q) := by
        funext q
        by_cases cq : q < 512
        · rw [if_pos cq, if_pos cq]
          show pd_px a_kinds a_on a_colours f_pressed f_over f_focus G (nI (q % 32)) (nI (q / 32)) R (pd_px1 a_kinds a_on a_colours f_pressed f_over f_focus G w (nI (q % 32)) (nI (q / 32)) (px q)) = _
          have e1 : pd_px1 a_kinds a_on a_colours f_pressed f_over f_focus G w (nI (q % 32)) (nI (q / 32)) (px q) = px q := by
            unfold pd_px1; exact if_neg (fun y => y.1 c)
          rw [e1]
        · rw [if_neg cq, if_neg cq]
      rw [e] at h
      exact h
    · refine br_f c ⟨vp_in_nI (by omega) (by omega), px_dw (G := G) H hG hV hw (hD w hw) c (nm_r (nI_1 i) (ih (i + 1) n _ hs.2 (by omega) (by omega) hR' ?_))⟩
      have e : (fun q => if q < 512 then pd_px a_kinds a_on a_colours f_pressed f_over f_focus G (nI (q % 32)) (nI (q / 32)) (w :: R) (px q) else px q) = (fun q => if q < 512 then pd_px a_kinds a_on a_colours f_pressed f_over f_focus G (nI (q % 32)) (nI (q / 32)) R ((fun q => if q < 512 then pd_px1 a_kinds a_on a_colours f_pressed f_over f_focus G w (nI (q % 32)) (nI (q / 32)) (px q) else px q) q) else (fun q => if q < 512 then pd_px1 a_kinds a_on a_colours f_pressed f_over f_focus G w (nI (q % 32)) (nI (q / 32)) (px q) else px q) q) := by
        funext q
        dsimp only
        by_cases cq : q < 512
        · rw [if_pos cq, if_pos cq, if_pos cq]; rfl
        · rw [if_neg cq, if_neg cq, if_neg cq]
      rw [e] at h
      exact h
/-- the drawn screen -/
def pd_C (kd on co : Nat → Int32) (pr ov fo : Int32) (G : Nat → pd_V) (O : List Nat) : Nat → Int32 := fun q => pd_px kd on co pr ov fo G (nI (q % 32)) (nI (q / 32)) O 0
theorem px_draw {post : SX → Prop} {L : List Nat} {rk : Nat → Nat} {G : Nat → pd_V} (H : pd_BI a_there a_parents L rk) (hG : pd_LE a_parents a_wishedPlaces a_wishedSizes a_shifts a_visible a_enabled a_layouts a_gaps a_weights L G) (hV : pd_VA a_wishedPlaces a_wishedSizes a_weights a_layouts a_targets a_shifts)
    (hD : pd_DG G a_parents L f_treeSize a_tree a_seen a_able a_places a_sizes a_clipStarts a_clipEnds)
    (h : post (f_stacked, f_treeSize, f_over, f_pressed, f_focus, f_waiting, f_noteCount, a_there, a_parents, a_kinds, a_colours, a_weights, a_gaps, a_layouts, a_values, a_effects, a_targets, a_visible, a_enabled, a_on, a_wishedPlaces, a_wishedSizes, a_shifts, a_stack, a_tree, a_seen, a_able, a_places, a_sizes, a_clipStarts, a_clipEnds, a_eventKinds, a_eventXs, a_eventYs, a_notes, pd_Z (pd_C a_kinds a_on a_colours f_pressed f_over f_focus G (pd_ord a_parents L)) a_pixels 512)) : wpX_draw post (f_stacked, f_treeSize, f_over, f_pressed, f_focus, f_waiting, f_noteCount, a_there, a_parents, a_kinds, a_colours, a_weights, a_gaps, a_layouts, a_values, a_effects, a_targets, a_visible, a_enabled, a_on, a_wishedPlaces, a_wishedSizes, a_shifts, a_stack, a_tree, a_seen, a_able, a_places, a_sizes, a_clipStarts, a_clipEnds, a_eventKinds, a_eventXs, a_eventYs, a_notes, a_pixels) := by
  obtain ⟨rfl, hs, hd⟩ := hD
  have hl := pd_ordL H
  have go : ∀ (d j : Nat), j + d = 512 → wX_draw_2 post f_stacked (nI (pd_ord a_parents L).length) f_over f_pressed f_focus f_waiting f_noteCount (d + 1) (nI j) a_there a_parents a_kinds a_colours a_weights a_gaps a_layouts a_values a_effects a_targets a_visible a_enabled a_on a_wishedPlaces a_wishedSizes a_shifts a_stack a_tree a_seen a_able a_places a_sizes a_clipStarts a_clipEnds a_eventKinds a_eventXs a_eventYs a_notes (pd_Z (fun _ => 0) a_pixels j) := by
    intro d
    induction d with
    | zero =>
      intro j hj
      have e : j = 512 := hj
      subst e
      rw [wX_draw_2]
      refine br_t (nI_le (a := 512) (by omega) (by omega)) ⟨(pd_ord a_parents L).length + 1, ?_⟩
      refine px_draw24 (G := G) H hG hV hl hd (pd_ord a_parents L) 0 _ _ hs (by omega) (by omega) (fun w hw => (pd_ordM H w).mp hw) ?_
      have e : (fun q => if q < 512 then pd_px a_kinds a_on a_colours f_pressed f_over f_focus G (nI (q % 32)) (nI (q / 32)) (pd_ord a_parents L) (pd_Z (fun _ => 0) a_pixels 512 q) else pd_Z (fun _ => 0) a_pixels 512 q) = pd_Z (pd_C a_kinds a_on a_colours f_pressed f_over f_focus G (pd_ord a_parents L)) a_pixels 512 := by
        funext q
        unfold pd_Z pd_C
        by_cases c : q < 512
        · rw [if_pos c, if_pos c, if_pos c]
        · rw [if_neg c, if_neg c, if_neg c]
      rw [e]
      exact h
    | succ d ih =>
      intro j hj
      rw [wX_draw_2]
      refine br_f (nI_ge (b := 512) (by omega) (by omega)) ⟨vp_in_nI (by omega) (by omega), nm_r (e' := pd_Z (fun _ => 0) a_pixels (j + 1)) ?_ (nm_r (nI_1 j) (ih (j + 1) (by omega)))⟩
      rw [pd_cl (by omega)]
      exact pd_Z1 (fun _ => 0) a_pixels j
  have k := go 512 0 rfl
  rw [pd_Z0] at k
  exact ⟨513, k⟩
/-! Y's drawing -/
theorem py_rim {post : Int32 → Prop} {w : Nat} {x y : Int32} {G : Nat → pd_V} (hw : w < 12) (hA : pd_YA G b_left b_top b_width b_height w) (h1 : pd_rim (G w) x y → post 1) (h0 : ¬ pd_rim (G w) x y → post 0) : wpY_isRim post (g_many, g_waiting, f_noteCount, f_over, f_pressed, f_focus, g_acted, a_there, a_kinds, (fun j => a_wishedPlaces (2 * j)), (fun j => a_wishedPlaces (2 * j + 1)), (fun j => a_wishedSizes (2 * j)), (fun j => a_wishedSizes (2 * j + 1)), a_colours, a_layouts, a_gaps, a_weights, (fun j => a_shifts (2 * j)), (fun j => a_shifts (2 * j + 1)), a_visible, a_enabled, a_on, a_values, a_parents, a_effects, a_targets, b_kids, b_kidCount, b_left, b_top, b_width, b_height, b_order, b_stack, a_pixels, b_events, a_notes) (nI w) x y := by
  have vw : vp_in (nI w) 12 := vp_in_nI hw (by omega)
  have cw : (nI w).toNatClampNeg = w := pd_cl (by omega)
  obtain ⟨a1, a2, a3, a4⟩ := hA
  refine ⟨vw, ?_⟩
  rw [cw, a1, a2, a3, a4]
  by_cases b1 : x = (G w).1 0
  · exact br_t b1 (h1 (Or.inl b1))
  · by_cases b2 : x = (G w).1 0 + (G w).2.1 0 - 1
    · exact br_f b1 ⟨vw, vw, br_t b2 (h1 (Or.inr (Or.inl b2)))⟩
    · by_cases b3 : y = (G w).1 1
      · exact br_f b1 ⟨vw, vw, br_f b2 ⟨vw, br_t b3 (h1 (Or.inr (Or.inr (Or.inl b3))))⟩⟩
      · by_cases b4 : y = (G w).1 1 + (G w).2.1 1 - 1
        · exact br_f b1 ⟨vw, vw, br_f b2 ⟨vw, br_f b3 ⟨vw, vw, br_t b4 (h1 (Or.inr (Or.inr (Or.inr b4))))⟩⟩⟩
        · exact br_f b1 ⟨vw, vw, br_f b2 ⟨vw, br_f b3 ⟨vw, vw, br_f b4 (h0 (fun z => z.elim b1 (fun z => z.elim b2 (fun z => z.elim b3 b4))))⟩⟩⟩
theorem py_paint {post : Int32 → Prop} {w : Nat} {L : List Nat} {rk : Nat → Nat} {G : Nat → pd_V} (H : pd_BI a_there a_parents L rk) (hG : pd_LE a_parents a_wishedPlaces a_wishedSizes a_shifts a_visible a_enabled a_layouts a_gaps a_weights L G) (hw : w = 0 ∨ w ∈ L)
    (h : post (pd_shd a_kinds a_on a_colours f_pressed f_over G w)) : wpY_paint post (g_many, g_waiting, f_noteCount, f_over, f_pressed, f_focus, g_acted, a_there, a_kinds, (fun j => a_wishedPlaces (2 * j)), (fun j => a_wishedPlaces (2 * j + 1)), (fun j => a_wishedSizes (2 * j)), (fun j => a_wishedSizes (2 * j + 1)), a_colours, a_layouts, a_gaps, a_weights, (fun j => a_shifts (2 * j)), (fun j => a_shifts (2 * j + 1)), a_visible, a_enabled, a_on, a_values, a_parents, a_effects, a_targets, b_kids, b_kidCount, b_left, b_top, b_width, b_height, b_order, b_stack, a_pixels, b_events, a_notes) (nI w) := by
  have hw12 := pd_12lt H.2.1 hw
  have vw : vp_in (nI w) 12 := vp_in_nI hw12 (by omega)
  have cw : (nI w).toNatClampNeg = w := pd_cl (by omega)
  have f73 : ∀ z0, z0 = (if (a_kinds w = 2 ∧ ¬ a_on w = 0) ∨ (a_kinds w = 1 ∧ f_pressed = nI w ∧ f_over = nI w) then a_colours w ^^^ 8 else a_colours w) → wY_paint_73 post (nI w) z0 g_many g_waiting f_noteCount f_over f_pressed f_focus g_acted a_there a_kinds (fun j => a_wishedPlaces (2 * j)) (fun j => a_wishedPlaces (2 * j + 1)) (fun j => a_wishedSizes (2 * j)) (fun j => a_wishedSizes (2 * j + 1)) a_colours a_layouts a_gaps a_weights (fun j => a_shifts (2 * j)) (fun j => a_shifts (2 * j + 1)) a_visible a_enabled a_on a_values a_parents a_effects a_targets b_kids b_kidCount b_left b_top b_width b_height b_order b_stack a_pixels b_events a_notes := by
    intro z0 e
    unfold pd_shd at h
    rw [← e] at h
    unfold wY_paint_73
    refine py_able (G := G) H hG w hw (fun c => ?_) (fun c => ?_)
    · rw [if_neg c] at h; exact br_f (by decide) h
    · rw [if_pos c] at h; exact br_t rfl h
  have f45 : ((a_kinds w = 2 ∧ ¬ a_on w = 0) ∨ (a_kinds w = 1 ∧ f_pressed = nI w ∧ f_over = nI w)) → wY_paint_45 post (nI w) g_many g_waiting f_noteCount f_over f_pressed f_focus g_acted a_there a_kinds (fun j => a_wishedPlaces (2 * j)) (fun j => a_wishedPlaces (2 * j + 1)) (fun j => a_wishedSizes (2 * j)) (fun j => a_wishedSizes (2 * j + 1)) a_colours a_layouts a_gaps a_weights (fun j => a_shifts (2 * j)) (fun j => a_shifts (2 * j + 1)) a_visible a_enabled a_on a_values a_parents a_effects a_targets b_kids b_kidCount b_left b_top b_width b_height b_order b_stack a_pixels b_events a_notes := fun c => br_f (by decide) ⟨vw, f73 _ (by rw [cw, if_pos c])⟩
  have f49 : ¬ ((a_kinds w = 2 ∧ ¬ a_on w = 0) ∨ (a_kinds w = 1 ∧ f_pressed = nI w ∧ f_over = nI w)) → wY_paint_49 post (nI w) g_many g_waiting f_noteCount f_over f_pressed f_focus g_acted a_there a_kinds (fun j => a_wishedPlaces (2 * j)) (fun j => a_wishedPlaces (2 * j + 1)) (fun j => a_wishedSizes (2 * j)) (fun j => a_wishedSizes (2 * j + 1)) a_colours a_layouts a_gaps a_weights (fun j => a_shifts (2 * j)) (fun j => a_shifts (2 * j + 1)) a_visible a_enabled a_on a_values a_parents a_effects a_targets b_kids b_kidCount b_left b_top b_width b_height b_order b_stack a_pixels b_events a_notes := fun c => br_t rfl ⟨vw, f73 _ (by rw [cw, if_neg c])⟩
  have f19 : ¬ (a_kinds w = 2 ∧ ¬ a_on w = 0) → wY_paint_19 post (nI w) g_many g_waiting f_noteCount f_over f_pressed f_focus g_acted a_there a_kinds (fun j => a_wishedPlaces (2 * j)) (fun j => a_wishedPlaces (2 * j + 1)) (fun j => a_wishedSizes (2 * j)) (fun j => a_wishedSizes (2 * j + 1)) a_colours a_layouts a_gaps a_weights (fun j => a_shifts (2 * j)) (fun j => a_shifts (2 * j + 1)) a_visible a_enabled a_on a_values a_parents a_effects a_targets b_kids b_kidCount b_left b_top b_width b_height b_order b_stack a_pixels b_events a_notes := by
    intro hn
    refine ⟨vw, ?_⟩
    rw [cw]
    by_cases k1 : a_kinds w = 1
    · refine br_t k1 ?_
      by_cases k2 : nI w = f_pressed
      · refine br_t k2 ?_
        by_cases k3 : nI w = f_over
        · exact br_t k3 (f45 (Or.inr ⟨k1, k2.symm, k3.symm⟩))
        · exact br_f k3 (f49 (fun z => z.elim hn (fun z => k3 z.2.2.symm)))
      · exact br_f k2 (f49 (fun z => z.elim hn (fun z => k2 z.2.1.symm)))
    · exact br_f k1 (f49 (fun z => z.elim hn (fun z => k1 z.1)))
  refine ⟨vw, ?_⟩
  rw [cw]
  by_cases k2 : a_kinds w = 2
  · refine br_t k2 ⟨vw, ?_⟩
    by_cases k3 : a_on w = 0
    · exact br_t k3 (f19 (fun z => z.2 k3))
    · exact br_f k3 (f45 (Or.inl ⟨k2, k3⟩))
  · exact br_f k2 (f19 (fun z => k2 z.1))
theorem py_draw17 {post : SY → Prop} {J : _} {L : List Nat} {rk : Nat → Nat} {G : Nat → pd_V} {N j : Nat} (H : pd_BI a_there a_parents L rk) (hG : pd_LE a_parents a_wishedPlaces a_wishedSizes a_shifts a_visible a_enabled a_layouts a_gaps a_weights L G) (hN : N ≤ 12) (hj : j < 512)
    (hA : ∀ w, (w = 0 ∨ w ∈ L) → pd_YA G b_left b_top b_width b_height w) :
    ∀ (R : List Nat) (i n : Nat) (c : Int32), pd_sg b_order i R → i + R.length = N → R.length < n → (∀ w, w ∈ R → w = 0 ∨ w ∈ L) →
    J (nI (j + 1)) a_there a_kinds (fun j => a_wishedPlaces (2 * j)) (fun j => a_wishedPlaces (2 * j + 1)) (fun j => a_wishedSizes (2 * j)) (fun j => a_wishedSizes (2 * j + 1)) a_colours a_layouts a_gaps a_weights (fun j => a_shifts (2 * j)) (fun j => a_shifts (2 * j + 1)) a_visible a_enabled a_on a_values a_parents a_effects a_targets b_kids b_kidCount b_left b_top b_width b_height b_order b_stack (upd a_pixels j (pd_px a_kinds a_on a_colours f_pressed f_over f_focus G (nI (j % 32)) (nI (j / 32)) R c)) b_events a_notes →
    wY_draw_17 post J (nI j) (nI N) g_waiting f_noteCount f_over f_pressed f_focus g_acted a_there a_kinds (fun j => a_wishedPlaces (2 * j)) (fun j => a_wishedPlaces (2 * j + 1)) (fun j => a_wishedSizes (2 * j)) (fun j => a_wishedSizes (2 * j + 1)) a_colours a_layouts a_gaps a_weights (fun j => a_shifts (2 * j)) (fun j => a_shifts (2 * j + 1)) a_visible a_enabled a_on a_values a_parents a_effects a_targets b_kids b_kidCount b_left b_top b_width b_height b_order b_stack a_pixels b_events a_notes n c (nI i) := by
  have er : nI j - nI j / 32 * 32 = nI (j % 32) := pk_rem (d := 32) (by omega) (by omega) (by omega)
  have ed : nI j / 32 = nI (j / 32) := pk_div (d := 32) (by omega) (by omega) (by omega)
  have n32 : ¬ (32 : Int32) = 0 := by decide
  intro R
  induction R with
  | nil =>
    intro i n c _ hi hn _ h
    obtain ⟨n, rfl⟩ : ∃ m, n = m + 1 := ⟨n - 1, by omega⟩
    rw [wY_draw_17]
    have hi' : i = N := hi
    exact br_t (by rw [hi']; exact Int32.le_refl _) ⟨vp_in_nI hj (by omega), nm_r (e' := upd a_pixels j c) (by rw [pd_cl (by omega)]) (nm_r (nI_1 j) h)⟩
  | cons w R ih =>
    intro i n c hs hi hn hR h
    obtain ⟨n, rfl⟩ : ∃ m, n = m + 1 := ⟨n - 1, by omega⟩
    rw [List.length_cons] at hi hn
    have hw := hR w (List.mem_cons_self ..)
    have hw12 := pd_12lt H.2.1 hw
    have hR' : ∀ v, v ∈ R → v = 0 ∨ v ∈ L := fun v hv => hR v (List.mem_cons_of_mem _ hv)
    have k : ∀ c', c' = pd_px1 a_kinds a_on a_colours f_pressed f_over f_focus G w (nI (j % 32)) (nI (j / 32)) c → wY_draw_17 post J (nI j) (nI N) g_waiting f_noteCount f_over f_pressed f_focus g_acted a_there a_kinds (fun j => a_wishedPlaces (2 * j)) (fun j => a_wishedPlaces (2 * j + 1)) (fun j => a_wishedSizes (2 * j)) (fun j => a_wishedSizes (2 * j + 1)) a_colours a_layouts a_gaps a_weights (fun j => a_shifts (2 * j)) (fun j => a_shifts (2 * j + 1)) a_visible a_enabled a_on a_values a_parents a_effects a_targets b_kids b_kidCount b_left b_top b_width b_height b_order b_stack a_pixels b_events a_notes n c' (nI (i + 1)) := by
      intro c' e
      subst e
      exact ih (i + 1) n _ hs.2 (by omega) (by omega) hR' h
    rw [wY_draw_17]
    refine br_f (nI_ge (by omega) (by omega)) ⟨vp_in_nI (by omega) (by omega), nm_r (e' := nI w) (by rw [pd_cl (by omega)]; exact hs.1) ⟨n32, n32, ?_⟩⟩
    rw [er, ed]
    have f86 : ∀ x5, (x5 = 0 ∧ ¬ pd_sho (G w) (nI (j % 32)) (nI (j / 32))) ∨ (x5 = 1 ∧ pd_sho (G w) (nI (j % 32)) (nI (j / 32)) ∧ ¬ (f_focus = nI w ∧ pd_rim (G w) (nI (j % 32)) (nI (j / 32)))) →
        wY_draw_86 post J (wY_draw_17 post J (nI j) (nI N) g_waiting f_noteCount f_over f_pressed f_focus g_acted a_there a_kinds (fun j => a_wishedPlaces (2 * j)) (fun j => a_wishedPlaces (2 * j + 1)) (fun j => a_wishedSizes (2 * j)) (fun j => a_wishedSizes (2 * j + 1)) a_colours a_layouts a_gaps a_weights (fun j => a_shifts (2 * j)) (fun j => a_shifts (2 * j + 1)) a_visible a_enabled a_on a_values a_parents a_effects a_targets b_kids b_kidCount b_left b_top b_width b_height b_order b_stack a_pixels b_events a_notes n) (nI j) c (nI i) (nI w) x5 (nI N) g_waiting f_noteCount f_over f_pressed f_focus g_acted a_there a_kinds (fun j => a_wishedPlaces (2 * j)) (fun j => a_wishedPlaces (2 * j + 1)) (fun j => a_wishedSizes (2 * j)) (fun j => a_wishedSizes (2 * j + 1)) a_colours a_layouts a_gaps a_weights (fun j => a_shifts (2 * j)) (fun j => a_shifts (2 * j + 1)) a_visible a_enabled a_on a_values a_parents a_effects a_targets b_kids b_kidCount b_left b_top b_width b_height b_order b_stack a_pixels b_events a_notes := by
      intro x5 hx
      rcases hx with ⟨e, hn⟩ | ⟨e, hy, hn⟩
      · exact br_t e (nm_r (nI_1 i) (k c (by unfold pd_px1; rw [if_neg hn])))
      · refine br_f (by rw [e]; decide) ⟨vp_in_nI hw12 (by omega), ?_⟩
        rw [pd_cl (by omega)]
        by_cases cc : a_colours w = 0
        · exact br_t cc (nm_r (nI_1 i) (k c (by unfold pd_px1; rw [if_pos hy, if_neg hn, if_pos cc])))
        · exact br_f cc (py_paint (G := G) H hG hw (nm_r (nI_1 i) (k _ (by unfold pd_px1; rw [if_pos hy, if_neg hn, if_neg cc]))))
    refine py_shows (G := G) H hG hA w hw (fun z => br_f (by decide) ?_) (fun z => br_t rfl (f86 0 (Or.inl ⟨rfl, z⟩)))
    by_cases cf : nI w = f_focus
    · refine br_t cf ⟨n32, n32, py_rim (G := G) hw12 (hA w hw) (fun y => br_f (by decide) (nm_r (nI_1 i) (k 15 ?_))) (fun y => br_t rfl (f86 1 (Or.inr ⟨rfl, z, fun x => y x.2⟩)))⟩
      unfold pd_px1
      rw [if_pos z, if_pos ⟨cf.symm, y⟩]
    · exact br_f cf (f86 1 (Or.inr ⟨rfl, z, fun x => cf x.1.symm⟩))
theorem py_draw {post : SY → Prop} {L : List Nat} {rk : Nat → Nat} {G : Nat → pd_V} (H : pd_BI a_there a_parents L rk) (hK : pd_KD a_parents b_kidCount b_kids L) (hV : pd_VA a_wishedPlaces a_wishedSizes a_weights a_layouts a_targets a_shifts)
    (hG : pd_LE a_parents a_wishedPlaces a_wishedSizes a_shifts a_visible a_enabled a_layouts a_gaps a_weights L G)
    (h : ∀ mn od st lf tp wd hg, post (mn, g_waiting, f_noteCount, f_over, f_pressed, f_focus, g_acted, a_there, a_kinds, (fun j => a_wishedPlaces (2 * j)), (fun j => a_wishedPlaces (2 * j + 1)), (fun j => a_wishedSizes (2 * j)), (fun j => a_wishedSizes (2 * j + 1)), a_colours, a_layouts, a_gaps, a_weights, (fun j => a_shifts (2 * j)), (fun j => a_shifts (2 * j + 1)), a_visible, a_enabled, a_on, a_values, a_parents, a_effects, a_targets, b_kids, b_kidCount, lf, tp, wd, hg, od, st, pd_Z (pd_C a_kinds a_on a_colours f_pressed f_over f_focus G (pd_ord a_parents L)) a_pixels 512, b_events, a_notes)) : wpY_draw post (g_many, g_waiting, f_noteCount, f_over, f_pressed, f_focus, g_acted, a_there, a_kinds, (fun j => a_wishedPlaces (2 * j)), (fun j => a_wishedPlaces (2 * j + 1)), (fun j => a_wishedSizes (2 * j)), (fun j => a_wishedSizes (2 * j + 1)), a_colours, a_layouts, a_gaps, a_weights, (fun j => a_shifts (2 * j)), (fun j => a_shifts (2 * j + 1)), a_visible, a_enabled, a_on, a_values, a_parents, a_effects, a_targets, b_kids, b_kidCount, b_left, b_top, b_width, b_height, b_order, b_stack, a_pixels, b_events, a_notes) := by
  have hl := pd_ordL H
  unfold wpY_draw
  refine py_rect (G := G) H hK hV hG (fun mn od st lf tp wd hg hO => ?_)
  obtain ⟨rfl, ho, hA⟩ := hO
  have go : ∀ (d j : Nat), j + d = 512 → wY_draw_6 post (nI (pd_ord a_parents L).length) g_waiting f_noteCount f_over f_pressed f_focus g_acted (d + 1) (nI j) a_there a_kinds (fun j => a_wishedPlaces (2 * j)) (fun j => a_wishedPlaces (2 * j + 1)) (fun j => a_wishedSizes (2 * j)) (fun j => a_wishedSizes (2 * j + 1)) a_colours a_layouts a_gaps a_weights (fun j => a_shifts (2 * j)) (fun j => a_shifts (2 * j + 1)) a_visible a_enabled a_on a_values a_parents a_effects a_targets b_kids b_kidCount lf tp wd hg od st (pd_Z (pd_C a_kinds a_on a_colours f_pressed f_over f_focus G (pd_ord a_parents L)) a_pixels j) b_events a_notes := by
    intro d
    induction d with
    | zero =>
      intro j hj
      have e : j = 512 := hj
      subst e
      rw [wY_draw_6]
      exact br_t (nI_le (a := 512) (by omega) (by omega)) (h _ od st lf tp wd hg)
    | succ d ih =>
      intro j hj
      rw [wY_draw_6]
      refine br_f (nI_ge (b := 512) (by omega) (by omega)) ⟨(pd_ord a_parents L).length + 1, ?_⟩
      refine py_draw17 (G := G) H hG hl (by omega) hA (pd_ord a_parents L) 0 _ 0 ho (by omega) (by omega) (fun w hw => (pd_ordM H w).mp hw) ?_
      have e := pd_Z1 (pd_C a_kinds a_on a_colours f_pressed f_over f_focus G (pd_ord a_parents L)) a_pixels j
      have k := ih (j + 1) (by omega)
      rw [← e] at k
      exact k
  have k := go 512 0 rfl
  rw [pd_Z0] at k
  exact ⟨513, k⟩
end PDV
end
section
section PDX
variable {f_stacked f_treeSize f_over f_pressed f_focus f_waiting f_noteCount : Int32} {a_there a_parents a_kinds a_colours a_weights a_gaps a_layouts a_values a_effects a_targets a_visible a_enabled a_on a_wishedPlaces a_wishedSizes a_shifts a_stack a_tree a_seen a_able a_places a_sizes a_clipStarts a_clipEnds a_eventKinds a_eventXs a_eventYs a_notes a_pixels : Nat → Int32}
variable {g_many g_waiting g_acted : Int32} {b_kids b_kidCount b_left b_top b_width b_height b_order b_stack b_events : Nat → Int32}
/-! the same with one result for all posts -/
theorem px_unsE {w N : Nat} (hw : w < 12) (hN : N ≤ 12) :
    ∀ (R A : List Nat) (i : Nat) (st : Nat → Int32), pd_sg st 0 A → pd_sg st i R → A.length ≤ i → i + R.length = N → (∀ c, c ∈ R → c < 12) →
    ∃ st', pd_sg st' 0 (A ++ pd_rm R w) ∧ ∀ (f_treeSize : Int32) (a_tree a_seen a_able a_places a_sizes a_clipStarts a_clipEnds : Nat → Int32) (n : Nat) (post : SX → Prop), R.length < n → post (nI (A ++ pd_rm R w).length, f_treeSize, f_over, f_pressed, f_focus, f_waiting, f_noteCount, a_there, a_parents, a_kinds, a_colours, a_weights, a_gaps, a_layouts, a_values, a_effects, a_targets, a_visible, a_enabled, a_on, a_wishedPlaces, a_wishedSizes, a_shifts, st', a_tree, a_seen, a_able, a_places, a_sizes, a_clipStarts, a_clipEnds, a_eventKinds, a_eventXs, a_eventYs, a_notes, a_pixels) →
    wX_unstack_4 post (nI w) (nI N) f_treeSize f_over f_pressed f_focus f_waiting f_noteCount n (nI A.length) (nI i) a_there a_parents a_kinds a_colours a_weights a_gaps a_layouts a_values a_effects a_targets a_visible a_enabled a_on a_wishedPlaces a_wishedSizes a_shifts st a_tree a_seen a_able a_places a_sizes a_clipStarts a_clipEnds a_eventKinds a_eventXs a_eventYs a_notes a_pixels := by
  intro R
  induction R with
  | nil =>
    intro A i st hA _ hl hi _
    have e : A ++ pd_rm [] w = A := by simp [pd_rm]
    rw [e]
    refine ⟨st, hA, fun f_treeSize a_tree a_seen a_able a_places a_sizes a_clipStarts a_clipEnds n post hn h => ?_⟩
    obtain ⟨n, rfl⟩ : ∃ m, n = m + 1 := ⟨n - 1, by omega⟩
    rw [wX_unstack_4]
    have hi' : i = N := hi
    exact br_t (by rw [hi']; exact Int32.le_refl _) h
  | cons c R ih =>
    intro A i st hA hR hl hi hc
    rw [List.length_cons] at hi
    have hc12 : c < 12 := hc c (List.mem_cons_self ..)
    have hcR : ∀ d, d ∈ R → d < 12 := fun d hd => hc d (List.mem_cons_of_mem _ hd)
    have es : st (nI i).toNatClampNeg = nI c := by rw [pd_cl (by omega)]; exact hR.1
    by_cases e : c = w
    · subst e
      have er : pd_rm (c :: R) c = pd_rm R c := by unfold pd_rm; simp
      rw [er]
      obtain ⟨st', h1, h2⟩ := ih A (i + 1) st hA hR.2 (by omega) (by omega) hcR
      refine ⟨st', h1, fun f_treeSize a_tree a_seen a_able a_places a_sizes a_clipStarts a_clipEnds n post hn h => ?_⟩
      rw [List.length_cons] at hn
      obtain ⟨n, rfl⟩ : ∃ m, n = m + 1 := ⟨n - 1, by omega⟩
      rw [wX_unstack_4]
      dsimp only
      rw [es]
      exact br_f (nI_ge (by omega) (by omega)) ⟨vp_in_nI (by omega) (by omega), br_t rfl (nm_r (nI_1 i) (h2 f_treeSize a_tree a_seen a_able a_places a_sizes a_clipStarts a_clipEnds n post (by omega) h))⟩
    · have er : pd_rm (c :: R) w = c :: pd_rm R w := by unfold pd_rm; simp [e]
      rw [er]
      have k := pd_cmp (b := 0) (i := i) hA (by rw [Nat.zero_add]; exact hR) hl
      simp only [Nat.zero_add] at k
      obtain ⟨s1, s2⟩ := k
      have hne : ¬ nI c = nI w := fun z => e (pd_im z (by omega) (by omega))
      obtain ⟨st', h1, h2⟩ := ih (A ++ [c]) (i + 1) _ s1 s2 (by rw [List.length_append, List.length_singleton]; omega) (by omega) hcR
      have el : A ++ [c] ++ pd_rm R w = A ++ c :: pd_rm R w := by simp
      rw [el] at h1 h2
      refine ⟨st', h1, fun f_treeSize a_tree a_seen a_able a_places a_sizes a_clipStarts a_clipEnds n post hn h => ?_⟩
      rw [List.length_cons] at hn
      obtain ⟨n, rfl⟩ : ∃ m, n = m + 1 := ⟨n - 1, by omega⟩
      rw [wX_unstack_4]
      dsimp only
      rw [es]
      refine br_f (nI_ge (by omega) (by omega)) ⟨vp_in_nI (by omega) (by omega), br_f hne ⟨vp_in_nI (by omega) (by omega), vp_in_nI (by omega) (by omega), nm_r (e' := upd st A.length (nI c)) (by rw [pd_cl (by omega)]) (nm_r (nI_1 A.length) (nm_r (nI_1 i) ?_))⟩⟩
      have k := h2 f_treeSize a_tree a_seen a_able a_places a_sizes a_clipStarts a_clipEnds n post (by omega) h
      rw [List.length_append, List.length_singleton] at k
      exact k
theorem px_raiseE {w : Nat} {L : List Nat} (hw : w < 12) (hw0 : 0 < w) (hST : pd_ST f_stacked a_stack L) (hl : L.length ≤ 11) (hc : ∀ c, c ∈ L → c < 12) :
    ∃ n st, pd_ST n st (pd_rm L w ++ [w]) ∧ ∀ (f_treeSize : Int32) (a_tree a_seen a_able a_places a_sizes a_clipStarts a_clipEnds : Nat → Int32) (post : SX → Prop), post (n, f_treeSize, f_over, f_pressed, f_focus, f_waiting, f_noteCount, a_there, a_parents, a_kinds, a_colours, a_weights, a_gaps, a_layouts, a_values, a_effects, a_targets, a_visible, a_enabled, a_on, a_wishedPlaces, a_wishedSizes, a_shifts, st, a_tree, a_seen, a_able, a_places, a_sizes, a_clipStarts, a_clipEnds, a_eventKinds, a_eventXs, a_eventYs, a_notes, a_pixels) → wpX_raise post (f_stacked, f_treeSize, f_over, f_pressed, f_focus, f_waiting, f_noteCount, a_there, a_parents, a_kinds, a_colours, a_weights, a_gaps, a_layouts, a_values, a_effects, a_targets, a_visible, a_enabled, a_on, a_wishedPlaces, a_wishedSizes, a_shifts, a_stack, a_tree, a_seen, a_able, a_places, a_sizes, a_clipStarts, a_clipEnds, a_eventKinds, a_eventXs, a_eventYs, a_notes, a_pixels) (nI w) := by
  have hr : (pd_rm L w).length ≤ 11 := Nat.le_trans (List.length_filter_le _ _) hl
  obtain ⟨rfl, hs⟩ := hST
  obtain ⟨st, h1, h2⟩ := px_unsE (f_over := f_over) (f_pressed := f_pressed) (f_focus := f_focus) (f_waiting := f_waiting) (f_noteCount := f_noteCount) (a_there := a_there) (a_parents := a_parents) (a_kinds := a_kinds) (a_colours := a_colours) (a_weights := a_weights) (a_gaps := a_gaps) (a_layouts := a_layouts) (a_values := a_values) (a_effects := a_effects) (a_targets := a_targets) (a_visible := a_visible) (a_enabled := a_enabled) (a_on := a_on) (a_wishedPlaces := a_wishedPlaces) (a_wishedSizes := a_wishedSizes) (a_shifts := a_shifts) (a_eventKinds := a_eventKinds) (a_eventXs := a_eventXs) (a_eventYs := a_eventYs) (a_notes := a_notes) (a_pixels := a_pixels)
    hw (N := L.length) (by omega) L [] 0 a_stack trivial hs (by simp) (by omega) hc
  rw [List.nil_append] at h1 h2
  refine ⟨nI ((pd_rm L w).length + 1), upd st (pd_rm L w).length (nI w), ⟨by rw [List.length_append, List.length_singleton], pd_sg_e h1⟩, fun f_treeSize a_tree a_seen a_able a_places a_sizes a_clipStarts a_clipEnds post h => ?_⟩
  refine br_f (nI_ne0 hw0 (by omega)) ⟨L.length + 1, h2 f_treeSize a_tree a_seen a_able a_places a_sizes a_clipStarts a_clipEnds _ _ (by omega) ?_⟩
  exact ⟨vp_in_nI (by omega) (by omega), nm_r (e' := upd st (pd_rm L w).length (nI w)) (by rw [pd_cl (by omega)]) (nm_r (nI_1 _) h)⟩
theorem py_takeE {w p N : Nat} (hw : w < 12) (hp : p < 12) (hN : N ≤ 12) (epa : a_parents w = nI p) (hk : b_kidCount p = nI N) (f : Nat → Int32) :
    ∀ (R A : List Nat) (i : Nat) (ki : Nat → Int32), pd_sg ki (12 * p) A → pd_sg ki (12 * p + i) R → A.length ≤ i → i + R.length = N → (∀ c, c ∈ R → c < 12) →
    (∀ j, (j < 12 * p ∨ 12 * p + 12 ≤ j) → ki j = f j) →
    ∃ ki', pd_sg ki' (12 * p) (A ++ pd_rm R w) ∧ (∀ j, (j < 12 * p ∨ 12 * p + 12 ≤ j) → ki' j = f j) ∧ ∀ (g_many : Int32) (b_left b_top b_width b_height b_order b_stack : Nat → Int32) (n : Nat) (post : SY → Prop), R.length < n → post (g_many, g_waiting, f_noteCount, f_over, f_pressed, f_focus, g_acted, a_there, a_kinds, (fun j => a_wishedPlaces (2 * j)), (fun j => a_wishedPlaces (2 * j + 1)), (fun j => a_wishedSizes (2 * j)), (fun j => a_wishedSizes (2 * j + 1)), a_colours, a_layouts, a_gaps, a_weights, (fun j => a_shifts (2 * j)), (fun j => a_shifts (2 * j + 1)), a_visible, a_enabled, a_on, a_values, a_parents, a_effects, a_targets, ki', upd b_kidCount p (nI (A ++ pd_rm R w).length), b_left, b_top, b_width, b_height, b_order, b_stack, a_pixels, b_events, a_notes) →
    wY_takeOut_15 post (nI w) (nI (12 * p)) g_many g_waiting f_noteCount f_over f_pressed f_focus g_acted n (nI A.length) (nI i) a_there a_kinds (fun j => a_wishedPlaces (2 * j)) (fun j => a_wishedPlaces (2 * j + 1)) (fun j => a_wishedSizes (2 * j)) (fun j => a_wishedSizes (2 * j + 1)) a_colours a_layouts a_gaps a_weights (fun j => a_shifts (2 * j)) (fun j => a_shifts (2 * j + 1)) a_visible a_enabled a_on a_values a_parents a_effects a_targets ki b_kidCount b_left b_top b_width b_height b_order b_stack a_pixels b_events a_notes := by
  have vw : vp_in (nI w) 12 := vp_in_nI hw (by omega)
  have cw : (nI w).toNatClampNeg = w := pd_cl (by omega)
  have vp : vp_in (nI p) 12 := vp_in_nI hp (by omega)
  have cp : (nI p).toNatClampNeg = p := pd_cl (by omega)
  intro R
  induction R with
  | nil =>
    intro A i ki hA _ hl hi _ hf
    have e : A ++ pd_rm [] w = A := by simp [pd_rm]
    rw [e]
    refine ⟨ki, hA, hf, fun g_many b_left b_top b_width b_height b_order b_stack n post hn h => ?_⟩
    obtain ⟨n, rfl⟩ : ∃ m, n = m + 1 := ⟨n - 1, by omega⟩
    have hi' : i = N := hi
    rw [wY_takeOut_15]
    dsimp only
    rw [cw, epa, cp, hk]
    exact ⟨vw, vp, br_t (by rw [hi']; exact Int32.le_refl _) ⟨vw, vp, nm_e h⟩⟩
  | cons c R ih =>
    intro A i ki hA hR hl hi hc hf
    rw [List.length_cons] at hi
    have hc12 : c < 12 := hc c (List.mem_cons_self ..)
    have hcR : ∀ d, d ∈ R → d < 12 := fun d hd => hc d (List.mem_cons_of_mem _ hd)
    have v4 : vp_in (nI (12 * p) + nI i) 144 := by rw [nI_add]; exact vp_in_nI (by omega) (by omega)
    have c4 : (nI (12 * p) + nI i).toNatClampNeg = 12 * p + i := by rw [nI_add]; exact pd_cl (by omega)
    have v3 : vp_in (nI (12 * p) + nI A.length) 144 := by rw [nI_add]; exact vp_in_nI (by omega) (by omega)
    have c3 : (nI (12 * p) + nI A.length).toNatClampNeg = 12 * p + A.length := by rw [nI_add]; exact pd_cl (by omega)
    have ek : ki (12 * p + i) = nI c := hR.1
    by_cases e : c = w
    · subst e
      have er : pd_rm (c :: R) c = pd_rm R c := by unfold pd_rm; simp
      rw [er]
      obtain ⟨ki', h1, h2, h3⟩ := ih A (i + 1) ki hA hR.2 (by omega) (by omega) hcR hf
      refine ⟨ki', h1, h2, fun g_many b_left b_top b_width b_height b_order b_stack n post hn h => ?_⟩
      rw [List.length_cons] at hn
      obtain ⟨n, rfl⟩ : ∃ m, n = m + 1 := ⟨n - 1, by omega⟩
      rw [wY_takeOut_15]
      dsimp only
      rw [cw, epa, cp, hk, c4, c3, ek]
      exact ⟨vw, vp, br_f (nI_ge (by omega) (by omega)) ⟨v4, br_t rfl (nm_r (nI_1 i) (h3 g_many b_left b_top b_width b_height b_order b_stack n post (by omega) h))⟩⟩
    · have er : pd_rm (c :: R) w = c :: pd_rm R w := by unfold pd_rm; simp [e]
      rw [er]
      obtain ⟨s1, s2⟩ := pd_cmp hA hR hl
      have hne : ¬ nI c = nI w := fun z => e (pd_im z (by omega) (by omega))
      obtain ⟨ki', h1, h2, h3⟩ := ih (A ++ [c]) (i + 1) _ s1 s2 (by rw [List.length_append, List.length_singleton]; omega) (by omega) hcR (fun j hj => by rw [pd_un (by omega)]; exact hf j hj)
      have el : A ++ [c] ++ pd_rm R w = A ++ c :: pd_rm R w := by simp
      rw [el] at h1 h3
      refine ⟨ki', h1, h2, fun g_many b_left b_top b_width b_height b_order b_stack n post hn h => ?_⟩
      rw [List.length_cons] at hn
      obtain ⟨n, rfl⟩ : ∃ m, n = m + 1 := ⟨n - 1, by omega⟩
      rw [wY_takeOut_15]
      dsimp only
      rw [cw, epa, cp, hk, c4, c3, ek]
      refine ⟨vw, vp, br_f (nI_ge (by omega) (by omega)) ⟨v4, br_f hne (nm_r (nI_1 A.length) ⟨v4, v3, nm_e (nm_r (nI_1 i) ?_)⟩)⟩⟩
      have k := h3 g_many b_left b_top b_width b_height b_order b_stack n post (by omega) h
      rw [List.length_append, List.length_singleton] at k
      exact k
theorem py_hiE {w p : Nat} {K : List Nat} (hw : w < 12) (hp : p < 12) (hN : K.length ≤ 11) (epa : a_parents w = nI p) (hk : b_kidCount p = nI K.length) (hs : pd_sg b_kids (12 * p) K) (hc : ∀ c, c ∈ K → c < 12) :
    ∃ ki, pd_sg ki (12 * p) (pd_rm K w ++ [w]) ∧ (∀ j, (j < 12 * p ∨ 12 * p + 12 ≤ j) → ki j = b_kids j) ∧ ∀ (g_many : Int32) (b_left b_top b_width b_height b_order b_stack : Nat → Int32) (post : SY → Prop), post (g_many, g_waiting, f_noteCount, f_over, f_pressed, f_focus, g_acted, a_there, a_kinds, (fun j => a_wishedPlaces (2 * j)), (fun j => a_wishedPlaces (2 * j + 1)), (fun j => a_wishedSizes (2 * j)), (fun j => a_wishedSizes (2 * j + 1)), a_colours, a_layouts, a_gaps, a_weights, (fun j => a_shifts (2 * j)), (fun j => a_shifts (2 * j + 1)), a_visible, a_enabled, a_on, a_values, a_parents, a_effects, a_targets, ki, upd b_kidCount p (nI ((pd_rm K w).length + 1)), b_left, b_top, b_width, b_height, b_order, b_stack, a_pixels, b_events, a_notes) → wpY_restack post (g_many, g_waiting, f_noteCount, f_over, f_pressed, f_focus, g_acted, a_there, a_kinds, (fun j => a_wishedPlaces (2 * j)), (fun j => a_wishedPlaces (2 * j + 1)), (fun j => a_wishedSizes (2 * j)), (fun j => a_wishedSizes (2 * j + 1)), a_colours, a_layouts, a_gaps, a_weights, (fun j => a_shifts (2 * j)), (fun j => a_shifts (2 * j + 1)), a_visible, a_enabled, a_on, a_values, a_parents, a_effects, a_targets, b_kids, b_kidCount, b_left, b_top, b_width, b_height, b_order, b_stack, a_pixels, b_events, a_notes) (nI w) 1 := by
  have vp : vp_in (nI p) 12 := vp_in_nI hp (by omega)
  have cp : (nI p).toNatClampNeg = p := pd_cl (by omega)
  have hl := pd_rml K w
  obtain ⟨ki, h1, h2, h3⟩ := py_takeE (g_waiting := g_waiting) (g_acted := g_acted) (f_noteCount := f_noteCount) (f_over := f_over) (f_pressed := f_pressed) (f_focus := f_focus) (a_there := a_there) (a_parents := a_parents) (a_kinds := a_kinds) (a_colours := a_colours) (a_weights := a_weights) (a_gaps := a_gaps) (a_layouts := a_layouts) (a_values := a_values) (a_effects := a_effects) (a_targets := a_targets) (a_visible := a_visible) (a_enabled := a_enabled) (a_on := a_on) (a_wishedPlaces := a_wishedPlaces) (a_wishedSizes := a_wishedSizes) (a_shifts := a_shifts) (a_notes := a_notes) (a_pixels := a_pixels) (b_kidCount := b_kidCount) (b_events := b_events)
    hw hp (N := K.length) (by omega) epa hk b_kids K [] 0 b_kids trivial hs (by simp) (by omega) hc (fun _ _ => rfl)
  rw [List.nil_append] at h1 h3
  refine ⟨upd ki (12 * p + (pd_rm K w).length) (nI w), (pd_sg_a _ [w] _).mpr ⟨pd_sg_c _ _ h1 (fun j _ hj => pd_un (by omega)), pd_us, trivial⟩, fun j hj => by rw [pd_un (by omega)]; exact h2 j hj, fun g_many b_left b_top b_width b_height b_order b_stack post h => ?_⟩
  refine ⟨vp_in_nI hw (by omega), nm_r (e' := nI p) (by rw [pd_cl (by omega), epa]) ⟨vp_in_nI hw (by omega), nm_r (e' := nI (12 * p)) (by rw [pd_cl (by omega), epa, pd_12]) ⟨K.length + 1, h3 g_many b_left b_top b_width b_height b_order b_stack _ _ (by omega) ?_⟩⟩⟩
  refine ⟨vp, vp, nm_r (e' := upd b_kidCount p (nI ((pd_rm K w).length + 1))) (by rw [cp, pd_us, pd_uu, nI_1]) (nm_r (e' := nI (pd_rm K w).length) (by rw [cp, pd_us]) ⟨1, ?_⟩)⟩
  have e : 12 * nI p + nI (pd_rm K w).length = nI (12 * p + (pd_rm K w).length) := pd_12b _ _
  have f70 : wY_restack_70 post (nI w) 1 (nI p) (nI (pd_rm K w).length) g_many g_waiting f_noteCount f_over f_pressed f_focus g_acted a_there a_kinds (fun j => a_wishedPlaces (2 * j)) (fun j => a_wishedPlaces (2 * j + 1)) (fun j => a_wishedSizes (2 * j)) (fun j => a_wishedSizes (2 * j + 1)) a_colours a_layouts a_gaps a_weights (fun j => a_shifts (2 * j)) (fun j => a_shifts (2 * j + 1)) a_visible a_enabled a_on a_values a_parents a_effects a_targets ki (upd b_kidCount p (nI ((pd_rm K w).length + 1))) b_left b_top b_width b_height b_order b_stack a_pixels b_events a_notes :=
    br_f (by decide) ⟨by rw [e]; exact vp_in_nI (by omega) (by omega), nm_r (e' := upd ki (12 * p + (pd_rm K w).length) (nI w)) (by rw [e, pd_cl (by omega)]) h⟩
  rw [wY_restack_29]
  exact br_c (fun _ => f70) (fun _ => br_f (by decide) f70)
end PDX
end
section
section PDW
variable {f_stacked f_treeSize f_over f_pressed f_focus f_waiting f_noteCount : Int32} {a_there a_parents a_kinds a_colours a_weights a_gaps a_layouts a_values a_effects a_targets a_visible a_enabled a_on a_wishedPlaces a_wishedSizes a_shifts a_stack a_tree a_seen a_able a_places a_sizes a_clipStarts a_clipEnds a_eventKinds a_eventXs a_eventYs a_notes a_pixels : Nat → Int32}
variable {g_many g_waiting g_acted : Int32} {b_kids b_kidCount b_left b_top b_width b_height b_order b_stack b_events : Nat → Int32}
/-! what an event does: without what settle() works out -/
def pd_MM (th pa : Nat → Int32) (L : List Nat) (rk : Nat → Nat) (fs : Int32) (st kc ki wp ws we la ta sh : Nat → Int32) (ov pr fo : Int32) : Prop :=
  pd_BI th pa L rk ∧ pd_ST fs st L ∧ pd_KD pa kc ki L ∧ pd_VA wp ws we la ta sh ∧ pd_SP L ov ∧ pd_SP L pr ∧ pd_SP L fo
theorem px_note {post : SX → Prop} {c : Int32} (h : post (f_stacked, f_treeSize, f_over, f_pressed, f_focus, f_waiting, f_noteCount + 1, a_there, a_parents, a_kinds, a_colours, a_weights, a_gaps, a_layouts, a_values, a_effects, a_targets, a_visible, a_enabled, a_on, a_wishedPlaces, a_wishedSizes, a_shifts, a_stack, a_tree, a_seen, a_able, a_places, a_sizes, a_clipStarts, a_clipEnds, a_eventKinds, a_eventXs, a_eventYs, upd a_notes (f_noteCount &&& 15).toNatClampNeg c, a_pixels)) : wpX_note post (f_stacked, f_treeSize, f_over, f_pressed, f_focus, f_waiting, f_noteCount, a_there, a_parents, a_kinds, a_colours, a_weights, a_gaps, a_layouts, a_values, a_effects, a_targets, a_visible, a_enabled, a_on, a_wishedPlaces, a_wishedSizes, a_shifts, a_stack, a_tree, a_seen, a_able, a_places, a_sizes, a_clipStarts, a_clipEnds, a_eventKinds, a_eventXs, a_eventYs, a_notes, a_pixels) c :=
  ⟨pk_andIn _ (m := 15) 4 (by decide) (by decide), nm_e (nm_e h)⟩
theorem py_note {post : SY → Prop} {c : Int32} (h : post (g_many, g_waiting, f_noteCount + 1, f_over, f_pressed, f_focus, g_acted, a_there, a_kinds, (fun j => a_wishedPlaces (2 * j)), (fun j => a_wishedPlaces (2 * j + 1)), (fun j => a_wishedSizes (2 * j)), (fun j => a_wishedSizes (2 * j + 1)), a_colours, a_layouts, a_gaps, a_weights, (fun j => a_shifts (2 * j)), (fun j => a_shifts (2 * j + 1)), a_visible, a_enabled, a_on, a_values, a_parents, a_effects, a_targets, b_kids, b_kidCount, b_left, b_top, b_width, b_height, b_order, b_stack, a_pixels, b_events, upd a_notes (f_noteCount &&& 15).toNatClampNeg c)) : wpY_note post (g_many, g_waiting, f_noteCount, f_over, f_pressed, f_focus, g_acted, a_there, a_kinds, (fun j => a_wishedPlaces (2 * j)), (fun j => a_wishedPlaces (2 * j + 1)), (fun j => a_wishedSizes (2 * j)), (fun j => a_wishedSizes (2 * j + 1)), a_colours, a_layouts, a_gaps, a_weights, (fun j => a_shifts (2 * j)), (fun j => a_shifts (2 * j + 1)), a_visible, a_enabled, a_on, a_values, a_parents, a_effects, a_targets, b_kids, b_kidCount, b_left, b_top, b_width, b_height, b_order, b_stack, a_pixels, b_events, a_notes) c :=
  nm_e ⟨pk_andIn _ (m := 15) 4 (by decide) (by decide), nm_e h⟩
theorem pd_give {w : Nat} (hw : w < 12) : ∃ fo nc ns, (fo = f_focus ∨ fo = nI w) ∧
    (∀ (f_treeSize : Int32) (a_tree a_seen a_able a_places a_sizes a_clipStarts a_clipEnds : Nat → Int32) (post : SX → Prop), post (f_stacked, f_treeSize, f_over, f_pressed, fo, f_waiting, nc, a_there, a_parents, a_kinds, a_colours, a_weights, a_gaps, a_layouts, a_values, a_effects, a_targets, a_visible, a_enabled, a_on, a_wishedPlaces, a_wishedSizes, a_shifts, a_stack, a_tree, a_seen, a_able, a_places, a_sizes, a_clipStarts, a_clipEnds, a_eventKinds, a_eventXs, a_eventYs, ns, a_pixels) → wpX_giveFocus post (f_stacked, f_treeSize, f_over, f_pressed, f_focus, f_waiting, f_noteCount, a_there, a_parents, a_kinds, a_colours, a_weights, a_gaps, a_layouts, a_values, a_effects, a_targets, a_visible, a_enabled, a_on, a_wishedPlaces, a_wishedSizes, a_shifts, a_stack, a_tree, a_seen, a_able, a_places, a_sizes, a_clipStarts, a_clipEnds, a_eventKinds, a_eventXs, a_eventYs, a_notes, a_pixels) (nI w)) ∧
    (∀ (g_many : Int32) (b_left b_top b_width b_height b_order b_stack : Nat → Int32) (post : SY → Prop), post (g_many, g_waiting, nc, f_over, f_pressed, fo, g_acted, a_there, a_kinds, (fun j => a_wishedPlaces (2 * j)), (fun j => a_wishedPlaces (2 * j + 1)), (fun j => a_wishedSizes (2 * j)), (fun j => a_wishedSizes (2 * j + 1)), a_colours, a_layouts, a_gaps, a_weights, (fun j => a_shifts (2 * j)), (fun j => a_shifts (2 * j + 1)), a_visible, a_enabled, a_on, a_values, a_parents, a_effects, a_targets, b_kids, b_kidCount, b_left, b_top, b_width, b_height, b_order, b_stack, a_pixels, b_events, ns) → wpY_give post (g_many, g_waiting, f_noteCount, f_over, f_pressed, f_focus, g_acted, a_there, a_kinds, (fun j => a_wishedPlaces (2 * j)), (fun j => a_wishedPlaces (2 * j + 1)), (fun j => a_wishedSizes (2 * j)), (fun j => a_wishedSizes (2 * j + 1)), a_colours, a_layouts, a_gaps, a_weights, (fun j => a_shifts (2 * j)), (fun j => a_shifts (2 * j + 1)), a_visible, a_enabled, a_on, a_values, a_parents, a_effects, a_targets, b_kids, b_kidCount, b_left, b_top, b_width, b_height, b_order, b_stack, a_pixels, b_events, a_notes) (nI w)) := by
  have vw : vp_in (nI w) 12 := vp_in_nI hw (by omega)
  have cw : (nI w).toNatClampNeg = w := pd_cl (by omega)
  by_cases c1 : a_kinds w = 0
  · refine ⟨f_focus, f_noteCount, a_notes, Or.inl rfl, fun f_treeSize a_tree a_seen a_able a_places a_sizes a_clipStarts a_clipEnds post h => ⟨vw, br_t (by rw [cw]; exact c1) h⟩, fun g_many b_left b_top b_width b_height b_order b_stack post h => ⟨vw, br_t (by rw [cw]; exact c1) h⟩⟩
  · have c1' : ¬ a_kinds (nI w).toNatClampNeg = 0 := by rw [cw]; exact c1
    by_cases c2 : f_focus = nI w
    · refine ⟨f_focus, f_noteCount, a_notes, Or.inl rfl, fun f_treeSize a_tree a_seen a_able a_places a_sizes a_clipStarts a_clipEnds post h => ⟨vw, br_f c1' (br_t c2 h)⟩, fun g_many b_left b_top b_width b_height b_order b_stack post h => ⟨vw, br_f c1' (br_t c2.symm h)⟩⟩
    · refine ⟨nI w, f_noteCount + 1, upd a_notes (f_noteCount &&& 15).toNatClampNeg (80 + nI w), Or.inr rfl, fun f_treeSize a_tree a_seen a_able a_places a_sizes a_clipStarts a_clipEnds post h => ⟨vw, br_f c1' (br_f c2 (px_note h))⟩, fun g_many b_left b_top b_width b_height b_order b_stack post h => ⟨vw, br_f c1' (br_f (fun z => c2 z.symm) (py_note h))⟩⟩
theorem pd_isN {th : Nat → Int32} {t : Nat} (ht : t < 12) : pd_is th (nI t) = if th t = 0 then 0 else 1 := by
  have h12 : ¬ (12 : Int32) ≤ nI t := nI_ge (b := 12) ht (by omega)
  unfold pd_is
  rw [if_neg (nI_pos (by omega)), if_neg h12, pd_cl (by omega)]
def pd_gs (x : Int32) : Int32 := if x < 20 then x + 1 else -20
theorem pd_gs20 {x : Int32} : pd_gs x ≤ 20 := by
  unfold pd_gs
  by_cases c : x < 20
  · rw [if_pos c]
    rw [Int32.lt_iff_toInt_lt, show (20 : Int32).toInt = 20 from by decide] at c
    have h1 := Int32.le_toInt x
    rw [Int32.le_iff_toInt_le, Int32.toInt_add, show (20 : Int32).toInt = 20 from by decide, show (1 : Int32).toInt = 1 from by decide, Int.bmod_eq_of_le (by omega) (by omega)]
    omega
  · rw [if_neg c]; decide
theorem px_grow {post : SX → Prop} {t : Nat} (ht : t < 12) (h : post (f_stacked, f_treeSize, f_over, f_pressed, f_focus, f_waiting, f_noteCount, a_there, a_parents, a_kinds, a_colours, a_weights, a_gaps, a_layouts, a_values, a_effects, a_targets, a_visible, a_enabled, a_on, a_wishedPlaces, a_wishedSizes, upd (upd a_shifts (2 * t) (pd_gs (a_shifts (2 * t)))) (2 * t + 1) (pd_gs (a_shifts (2 * t + 1))), a_stack, a_tree, a_seen, a_able, a_places, a_sizes, a_clipStarts, a_clipEnds, a_eventKinds, a_eventXs, a_eventYs, a_notes, a_pixels)) : wpX_growShift post (f_stacked, f_treeSize, f_over, f_pressed, f_focus, f_waiting, f_noteCount, a_there, a_parents, a_kinds, a_colours, a_weights, a_gaps, a_layouts, a_values, a_effects, a_targets, a_visible, a_enabled, a_on, a_wishedPlaces, a_wishedSizes, a_shifts, a_stack, a_tree, a_seen, a_able, a_places, a_sizes, a_clipStarts, a_clipEnds, a_eventKinds, a_eventXs, a_eventYs, a_notes, a_pixels) (nI t) := by
  have e2 : 2 * nI t + 2 = nI (2 * t + 2) := by rw [pd_2]; exact nI_add (2 * t) 2
  have step : ∀ (j n : Nat) (sh : Nat → Int32), j < 2 * t + 2 → j < 24 → wX_growShift_4 post (nI t) f_stacked f_treeSize f_over f_pressed f_focus f_waiting f_noteCount n (nI (j + 1)) a_there a_parents a_kinds a_colours a_weights a_gaps a_layouts a_values a_effects a_targets a_visible a_enabled a_on a_wishedPlaces a_wishedSizes (upd sh j (pd_gs (sh j))) a_stack a_tree a_seen a_able a_places a_sizes a_clipStarts a_clipEnds a_eventKinds a_eventXs a_eventYs a_notes a_pixels → wX_growShift_4 post (nI t) f_stacked f_treeSize f_over f_pressed f_focus f_waiting f_noteCount (n + 1) (nI j) a_there a_parents a_kinds a_colours a_weights a_gaps a_layouts a_values a_effects a_targets a_visible a_enabled a_on a_wishedPlaces a_wishedSizes sh a_stack a_tree a_seen a_able a_places a_sizes a_clipStarts a_clipEnds a_eventKinds a_eventXs a_eventYs a_notes a_pixels := by
    intro j n sh hj hj2 k
    have vj : vp_in (nI j) 24 := vp_in_nI hj2 (by omega)
    rw [wX_growShift_4]
    dsimp only
    rw [e2, pd_cl (n := j) (by omega)]
    refine br_f (nI_ge (by omega) (by omega)) ⟨vj, ?_⟩
    by_cases c : sh j < 20
    · have e : pd_gs (sh j) = sh j + 1 := if_pos c
      rw [e] at k
      exact br_t c ⟨vj, vj, nm_e (nm_r (nI_1 j) k)⟩
    · have e : pd_gs (sh j) = -20 := if_neg c
      rw [e] at k
      exact br_f c ⟨vj, nm_e (nm_r (nI_1 j) k)⟩
  refine nm_r (pd_2 t) ⟨3, step (2 * t) 2 a_shifts (by omega) (by omega) (step (2 * t + 1) 1 _ (by omega) (by omega) ?_)⟩
  rw [wX_growShift_4]
  dsimp only
  rw [e2]
  refine br_t (Int32.le_refl _) ?_
  rw [pd_un (by omega)]
  exact h
theorem py_hapN {post : SY → Prop} {e x : Int32} (h1 : ¬ e = 1) (h2 : ¬ e = 2) (h3 : ¬ e = 3) (h4 : ¬ e = 4) (h5 : ¬ e = 5) (h : post (g_many, g_waiting, f_noteCount, f_over, f_pressed, f_focus, g_acted, a_there, a_kinds, (fun j => a_wishedPlaces (2 * j)), (fun j => a_wishedPlaces (2 * j + 1)), (fun j => a_wishedSizes (2 * j)), (fun j => a_wishedSizes (2 * j + 1)), a_colours, a_layouts, a_gaps, a_weights, (fun j => a_shifts (2 * j)), (fun j => a_shifts (2 * j + 1)), a_visible, a_enabled, a_on, a_values, a_parents, a_effects, a_targets, b_kids, b_kidCount, b_left, b_top, b_width, b_height, b_order, b_stack, a_pixels, b_events, a_notes)) : wpY_happen post (g_many, g_waiting, f_noteCount, f_over, f_pressed, f_focus, g_acted, a_there, a_kinds, (fun j => a_wishedPlaces (2 * j)), (fun j => a_wishedPlaces (2 * j + 1)), (fun j => a_wishedSizes (2 * j)), (fun j => a_wishedSizes (2 * j + 1)), a_colours, a_layouts, a_gaps, a_weights, (fun j => a_shifts (2 * j)), (fun j => a_shifts (2 * j + 1)), a_visible, a_enabled, a_on, a_values, a_parents, a_effects, a_targets, b_kids, b_kidCount, b_left, b_top, b_width, b_height, b_order, b_stack, a_pixels, b_events, a_notes) e x :=
  br_f h1 (br_f h2 (br_f h3 (br_f h4 (br_f h5 h))))
theorem pd_work {w : Nat} {L : List Nat} {rk : Nat → Nat} (hw : w < 12) (hM : pd_MM a_there a_parents L rk f_stacked a_stack b_kidCount b_kids a_wishedPlaces a_wishedSizes a_weights a_layouts a_targets a_shifts f_over f_pressed f_focus) : ∃ (r : Int32) (L' : List Nat) (fs fo nc : Int32) (st vi en sh ns ki kc : Nat → Int32),
    pd_MM a_there a_parents L' rk fs st kc ki a_wishedPlaces a_wishedSizes a_weights a_layouts a_targets sh f_over f_pressed fo ∧ (∀ x, x ∈ L' ↔ x ∈ L) ∧ (r = -1 ∨ ∃ t, t < 12 ∧ (t = 0 ∨ t ∈ L) ∧ r = nI t) ∧
    (∀ (f_treeSize : Int32) (a_tree a_seen a_able a_places a_sizes a_clipStarts a_clipEnds : Nat → Int32) (post : Int32 → SX → Prop), post r (fs, f_treeSize, f_over, f_pressed, fo, f_waiting, nc, a_there, a_parents, a_kinds, a_colours, a_weights, a_gaps, a_layouts, a_values, a_effects, a_targets, vi, en, a_on, a_wishedPlaces, a_wishedSizes, sh, st, a_tree, a_seen, a_able, a_places, a_sizes, a_clipStarts, a_clipEnds, a_eventKinds, a_eventXs, a_eventYs, ns, a_pixels) → wpX_workEffect post (f_stacked, f_treeSize, f_over, f_pressed, f_focus, f_waiting, f_noteCount, a_there, a_parents, a_kinds, a_colours, a_weights, a_gaps, a_layouts, a_values, a_effects, a_targets, a_visible, a_enabled, a_on, a_wishedPlaces, a_wishedSizes, a_shifts, a_stack, a_tree, a_seen, a_able, a_places, a_sizes, a_clipStarts, a_clipEnds, a_eventKinds, a_eventXs, a_eventYs, a_notes, a_pixels) (nI w)) ∧
    (∀ (g_many : Int32) (b_left b_top b_width b_height b_order b_stack : Nat → Int32) (post : SY → Prop) (J : _), J r g_many g_waiting nc f_over f_pressed fo g_acted a_there a_kinds (fun j => a_wishedPlaces (2 * j)) (fun j => a_wishedPlaces (2 * j + 1)) (fun j => a_wishedSizes (2 * j)) (fun j => a_wishedSizes (2 * j + 1)) a_colours a_layouts a_gaps a_weights (fun j => sh (2 * j)) (fun j => sh (2 * j + 1)) vi en a_on a_values a_parents a_effects a_targets ki kc b_left b_top b_width b_height b_order b_stack a_pixels b_events ns → wY_act_67 post J (nI w) g_many g_waiting f_noteCount f_over f_pressed f_focus g_acted a_there a_kinds (fun j => a_wishedPlaces (2 * j)) (fun j => a_wishedPlaces (2 * j + 1)) (fun j => a_wishedSizes (2 * j)) (fun j => a_wishedSizes (2 * j + 1)) a_colours a_layouts a_gaps a_weights (fun j => a_shifts (2 * j)) (fun j => a_shifts (2 * j + 1)) a_visible a_enabled a_on a_values a_parents a_effects a_targets b_kids b_kidCount b_left b_top b_width b_height b_order b_stack a_pixels b_events a_notes) := by
  obtain ⟨hB, hS, hK, hV, ho, hpr, hf⟩ := hM
  have hM : pd_MM a_there a_parents L rk f_stacked a_stack b_kidCount b_kids a_wishedPlaces a_wishedSizes a_weights a_layouts a_targets a_shifts f_over f_pressed f_focus := ⟨hB, hS, hK, hV, ho, hpr, hf⟩
  have vw : vp_in (nI w) 12 := vp_in_nI hw (by omega)
  have cw : (nI w).toNatClampNeg = w := pd_cl (by omega)
  obtain ⟨t, ht, et⟩ := hV.2.2.2.1 w hw
  have vt : vp_in (nI t) 12 := vp_in_nI ht (by omega)
  have ct : (nI t).toNatClampNeg = t := pd_cl (by omega)
  have hI := pd_isN (th := a_there) ht
  by_cases c0 : a_there t = 0
  · rw [if_pos c0] at hI
    refine ⟨-1, L, f_stacked, f_focus, f_noteCount, a_stack, a_visible, a_enabled, a_shifts, a_notes, b_kids, b_kidCount, hM, fun _ => Iff.rfl, Or.inl rfl, fun f_treeSize a_tree a_seen a_able a_places a_sizes a_clipStarts a_clipEnds post h => ?_, fun g_many b_left b_top b_width b_height b_order b_stack post J h => ?_⟩
    · exact ⟨vw, nm_r (e' := nI t) (by rw [cw, et]) (px_is (br_t hI h))⟩
    · refine ⟨vw, nm_r (e' := nI t) (by rw [cw, et]) ⟨vt, br_t (by rw [ct]; exact c0) (br_f (by decide) (py_hapN (by decide) (by decide) (by decide) (by decide) (by decide) h))⟩⟩
  · rw [if_neg c0] at hI
    have hI' : ¬ pd_is a_there (nI t) = 0 := by rw [hI]; decide
    have htL := (hB.2.2.1 t ht).mp c0
    have xgo : ∀ (f_treeSize : Int32) (a_tree a_seen a_able a_places a_sizes a_clipStarts a_clipEnds : Nat → Int32) (post : Int32 → SX → Prop) (e : Int32), a_effects w = e → ((e < 1 → post (-1) (f_stacked, f_treeSize, f_over, f_pressed, f_focus, f_waiting, f_noteCount, a_there, a_parents, a_kinds, a_colours, a_weights, a_gaps, a_layouts, a_values, a_effects, a_targets, a_visible, a_enabled, a_on, a_wishedPlaces, a_wishedSizes, a_shifts, a_stack, a_tree, a_seen, a_able, a_places, a_sizes, a_clipStarts, a_clipEnds, a_eventKinds, a_eventXs, a_eventYs, a_notes, a_pixels)) ∧ (¬ e < 1 → ((6 < e → post (-1) (f_stacked, f_treeSize, f_over, f_pressed, f_focus, f_waiting, f_noteCount, a_there, a_parents, a_kinds, a_colours, a_weights, a_gaps, a_layouts, a_values, a_effects, a_targets, a_visible, a_enabled, a_on, a_wishedPlaces, a_wishedSizes, a_shifts, a_stack, a_tree, a_seen, a_able, a_places, a_sizes, a_clipStarts, a_clipEnds, a_eventKinds, a_eventXs, a_eventYs, a_notes, a_pixels)) ∧ (¬ 6 < e → ((e = 1 → (vp_in (nI t) 12 ∧ ((a_visible (nI t).toNatClampNeg = 0 → (vp_in (nI t) 12 ∧ ∀ z, z = upd a_visible (nI t).toNatClampNeg (vp_nar .boolean 1) → post (-1) (f_stacked, f_treeSize, f_over, f_pressed, f_focus, f_waiting, f_noteCount, a_there, a_parents, a_kinds, a_colours, a_weights, a_gaps, a_layouts, a_values, a_effects, a_targets, z, a_enabled, a_on, a_wishedPlaces, a_wishedSizes, a_shifts, a_stack, a_tree, a_seen, a_able, a_places, a_sizes, a_clipStarts, a_clipEnds, a_eventKinds, a_eventXs, a_eventYs, a_notes, a_pixels))) ∧ (¬ a_visible (nI t).toNatClampNeg = 0 → (vp_in (nI t) 12 ∧ ∀ z, z = upd a_visible (nI t).toNatClampNeg (vp_nar .boolean 0) → post (-1) (f_stacked, f_treeSize, f_over, f_pressed, f_focus, f_waiting, f_noteCount, a_there, a_parents, a_kinds, a_colours, a_weights, a_gaps, a_layouts, a_values, a_effects, a_targets, z, a_enabled, a_on, a_wishedPlaces, a_wishedSizes, a_shifts, a_stack, a_tree, a_seen, a_able, a_places, a_sizes, a_clipStarts, a_clipEnds, a_eventKinds, a_eventXs, a_eventYs, a_notes, a_pixels)))))) ∧ (¬ e = 1 → ((e = 2 → (vp_in (nI t) 12 ∧ ((a_enabled (nI t).toNatClampNeg = 0 → (vp_in (nI t) 12 ∧ ∀ z, z = upd a_enabled (nI t).toNatClampNeg (vp_nar .boolean 1) → post (-1) (f_stacked, f_treeSize, f_over, f_pressed, f_focus, f_waiting, f_noteCount, a_there, a_parents, a_kinds, a_colours, a_weights, a_gaps, a_layouts, a_values, a_effects, a_targets, a_visible, z, a_on, a_wishedPlaces, a_wishedSizes, a_shifts, a_stack, a_tree, a_seen, a_able, a_places, a_sizes, a_clipStarts, a_clipEnds, a_eventKinds, a_eventXs, a_eventYs, a_notes, a_pixels))) ∧ (¬ a_enabled (nI t).toNatClampNeg = 0 → (vp_in (nI t) 12 ∧ ∀ z, z = upd a_enabled (nI t).toNatClampNeg (vp_nar .boolean 0) → post (-1) (f_stacked, f_treeSize, f_over, f_pressed, f_focus, f_waiting, f_noteCount, a_there, a_parents, a_kinds, a_colours, a_weights, a_gaps, a_layouts, a_values, a_effects, a_targets, a_visible, z, a_on, a_wishedPlaces, a_wishedSizes, a_shifts, a_stack, a_tree, a_seen, a_able, a_places, a_sizes, a_clipStarts, a_clipEnds, a_eventKinds, a_eventXs, a_eventYs, a_notes, a_pixels)))))) ∧ (¬ e = 2 → ((e = 3 → wpX_raise (fun u => match u with | (f_stacked1, f_treeSize1, f_over1, f_pressed1, f_focus1, f_waiting1, f_noteCount1, a_there1, a_parents1, a_kinds1, a_colours1, a_weights1, a_gaps1, a_layouts1, a_values1, a_effects1, a_targets1, a_visible1, a_enabled1, a_on1, a_wishedPlaces1, a_wishedSizes1, a_shifts1, a_stack1, a_tree1, a_seen1, a_able1, a_places1, a_sizes1, a_clipStarts1, a_clipEnds1, a_eventKinds1, a_eventXs1, a_eventYs1, a_notes1, a_pixels1) => post (-1) (f_stacked1, f_treeSize1, f_over1, f_pressed1, f_focus1, f_waiting1, f_noteCount1, a_there1, a_parents1, a_kinds1, a_colours1, a_weights1, a_gaps1, a_layouts1, a_values1, a_effects1, a_targets1, a_visible1, a_enabled1, a_on1, a_wishedPlaces1, a_wishedSizes1, a_shifts1, a_stack1, a_tree1, a_seen1, a_able1, a_places1, a_sizes1, a_clipStarts1, a_clipEnds1, a_eventKinds1, a_eventXs1, a_eventYs1, a_notes1, a_pixels1)) (f_stacked, f_treeSize, f_over, f_pressed, f_focus, f_waiting, f_noteCount, a_there, a_parents, a_kinds, a_colours, a_weights, a_gaps, a_layouts, a_values, a_effects, a_targets, a_visible, a_enabled, a_on, a_wishedPlaces, a_wishedSizes, a_shifts, a_stack, a_tree, a_seen, a_able, a_places, a_sizes, a_clipStarts, a_clipEnds, a_eventKinds, a_eventXs, a_eventYs, a_notes, a_pixels) (nI t)) ∧ (¬ e = 3 → ((e = 4 → wpX_growShift (fun u => match u with | (f_stacked1, f_treeSize1, f_over1, f_pressed1, f_focus1, f_waiting1, f_noteCount1, a_there1, a_parents1, a_kinds1, a_colours1, a_weights1, a_gaps1, a_layouts1, a_values1, a_effects1, a_targets1, a_visible1, a_enabled1, a_on1, a_wishedPlaces1, a_wishedSizes1, a_shifts1, a_stack1, a_tree1, a_seen1, a_able1, a_places1, a_sizes1, a_clipStarts1, a_clipEnds1, a_eventKinds1, a_eventXs1, a_eventYs1, a_notes1, a_pixels1) => post (-1) (f_stacked1, f_treeSize1, f_over1, f_pressed1, f_focus1, f_waiting1, f_noteCount1, a_there1, a_parents1, a_kinds1, a_colours1, a_weights1, a_gaps1, a_layouts1, a_values1, a_effects1, a_targets1, a_visible1, a_enabled1, a_on1, a_wishedPlaces1, a_wishedSizes1, a_shifts1, a_stack1, a_tree1, a_seen1, a_able1, a_places1, a_sizes1, a_clipStarts1, a_clipEnds1, a_eventKinds1, a_eventXs1, a_eventYs1, a_notes1, a_pixels1)) (f_stacked, f_treeSize, f_over, f_pressed, f_focus, f_waiting, f_noteCount, a_there, a_parents, a_kinds, a_colours, a_weights, a_gaps, a_layouts, a_values, a_effects, a_targets, a_visible, a_enabled, a_on, a_wishedPlaces, a_wishedSizes, a_shifts, a_stack, a_tree, a_seen, a_able, a_places, a_sizes, a_clipStarts, a_clipEnds, a_eventKinds, a_eventXs, a_eventYs, a_notes, a_pixels) (nI t)) ∧ (¬ e = 4 → ((e = 5 → wpX_giveFocus (fun u => match u with | (f_stacked1, f_treeSize1, f_over1, f_pressed1, f_focus1, f_waiting1, f_noteCount1, a_there1, a_parents1, a_kinds1, a_colours1, a_weights1, a_gaps1, a_layouts1, a_values1, a_effects1, a_targets1, a_visible1, a_enabled1, a_on1, a_wishedPlaces1, a_wishedSizes1, a_shifts1, a_stack1, a_tree1, a_seen1, a_able1, a_places1, a_sizes1, a_clipStarts1, a_clipEnds1, a_eventKinds1, a_eventXs1, a_eventYs1, a_notes1, a_pixels1) => post (-1) (f_stacked1, f_treeSize1, f_over1, f_pressed1, f_focus1, f_waiting1, f_noteCount1, a_there1, a_parents1, a_kinds1, a_colours1, a_weights1, a_gaps1, a_layouts1, a_values1, a_effects1, a_targets1, a_visible1, a_enabled1, a_on1, a_wishedPlaces1, a_wishedSizes1, a_shifts1, a_stack1, a_tree1, a_seen1, a_able1, a_places1, a_sizes1, a_clipStarts1, a_clipEnds1, a_eventKinds1, a_eventXs1, a_eventYs1, a_notes1, a_pixels1)) (f_stacked, f_treeSize, f_over, f_pressed, f_focus, f_waiting, f_noteCount, a_there, a_parents, a_kinds, a_colours, a_weights, a_gaps, a_layouts, a_values, a_effects, a_targets, a_visible, a_enabled, a_on, a_wishedPlaces, a_wishedSizes, a_shifts, a_stack, a_tree, a_seen, a_able, a_places, a_sizes, a_clipStarts, a_clipEnds, a_eventKinds, a_eventXs, a_eventYs, a_notes, a_pixels) (nI t)) ∧ (¬ e = 5 → ((e = 6 → post (nI t) (f_stacked, f_treeSize, f_over, f_pressed, f_focus, f_waiting, f_noteCount, a_there, a_parents, a_kinds, a_colours, a_weights, a_gaps, a_layouts, a_values, a_effects, a_targets, a_visible, a_enabled, a_on, a_wishedPlaces, a_wishedSizes, a_shifts, a_stack, a_tree, a_seen, a_able, a_places, a_sizes, a_clipStarts, a_clipEnds, a_eventKinds, a_eventXs, a_eventYs, a_notes, a_pixels)) ∧ (¬ e = 6 → True)))))))))))))))) → wpX_workEffect post (f_stacked, f_treeSize, f_over, f_pressed, f_focus, f_waiting, f_noteCount, a_there, a_parents, a_kinds, a_colours, a_weights, a_gaps, a_layouts, a_values, a_effects, a_targets, a_visible, a_enabled, a_on, a_wishedPlaces, a_wishedSizes, a_shifts, a_stack, a_tree, a_seen, a_able, a_places, a_sizes, a_clipStarts, a_clipEnds, a_eventKinds, a_eventXs, a_eventYs, a_notes, a_pixels) (nI w) := by
      intro f_treeSize a_tree a_seen a_able a_places a_sizes a_clipStarts a_clipEnds post e he h
      exact ⟨vw, nm_r (e' := nI t) (by rw [cw, et]) (px_is (br_f hI' ⟨vw, nm_r (e' := e) (by rw [cw, he]) h⟩))⟩
    have ygo : ∀ (g_many : Int32) (b_left b_top b_width b_height b_order b_stack : Nat → Int32) (post : SY → Prop) (J : _) (e : Int32), a_effects w = e → ¬ e = 6 → wpY_happen (fun u => match u with | (g_many1, g_waiting1, g_noteCount1, g_over1, g_pressed1, g_focus1, g_acted1, b_there1, b_kind1, b_wishX1, b_wishY1, b_wishW1, b_wishH1, b_colour1, b_layout1, b_gap1, b_weight1, b_shiftX1, b_shiftY1, b_visible1, b_enabled1, b_on1, b_value1, b_parent1, b_effects1, b_targets1, b_kids1, b_kidCount1, b_left1, b_top1, b_width1, b_height1, b_order1, b_stack1, b_pixels1, b_events1, b_notes1) => J (-1) g_many1 g_waiting1 g_noteCount1 g_over1 g_pressed1 g_focus1 g_acted1 b_there1 b_kind1 b_wishX1 b_wishY1 b_wishW1 b_wishH1 b_colour1 b_layout1 b_gap1 b_weight1 b_shiftX1 b_shiftY1 b_visible1 b_enabled1 b_on1 b_value1 b_parent1 b_effects1 b_targets1 b_kids1 b_kidCount1 b_left1 b_top1 b_width1 b_height1 b_order1 b_stack1 b_pixels1 b_events1 b_notes1) (g_many, g_waiting, f_noteCount, f_over, f_pressed, f_focus, g_acted, a_there, a_kinds, (fun j => a_wishedPlaces (2 * j)), (fun j => a_wishedPlaces (2 * j + 1)), (fun j => a_wishedSizes (2 * j)), (fun j => a_wishedSizes (2 * j + 1)), a_colours, a_layouts, a_gaps, a_weights, (fun j => a_shifts (2 * j)), (fun j => a_shifts (2 * j + 1)), a_visible, a_enabled, a_on, a_values, a_parents, a_effects, a_targets, b_kids, b_kidCount, b_left, b_top, b_width, b_height, b_order, b_stack, a_pixels, b_events, a_notes) e (nI t) → wY_act_67 post J (nI w) g_many g_waiting f_noteCount f_over f_pressed f_focus g_acted a_there a_kinds (fun j => a_wishedPlaces (2 * j)) (fun j => a_wishedPlaces (2 * j + 1)) (fun j => a_wishedSizes (2 * j)) (fun j => a_wishedSizes (2 * j + 1)) a_colours a_layouts a_gaps a_weights (fun j => a_shifts (2 * j)) (fun j => a_shifts (2 * j + 1)) a_visible a_enabled a_on a_values a_parents a_effects a_targets b_kids b_kidCount b_left b_top b_width b_height b_order b_stack a_pixels b_events a_notes := by
      intro g_many b_left b_top b_width b_height b_order b_stack post J e he h6 h
      refine ⟨vw, nm_r (e' := nI t) (by rw [cw, et]) ⟨vt, br_f (by rw [ct]; exact c0) ⟨vw, ?_⟩⟩⟩
      rw [cw, he]
      exact br_f h6 h
    by_cases e1 : a_effects w = 1
    · by_cases c : a_visible t = 0
      · refine ⟨-1, L, f_stacked, f_focus, f_noteCount, a_stack, upd a_visible t 1, a_enabled, a_shifts, a_notes, b_kids, b_kidCount, hM, fun _ => Iff.rfl, Or.inl rfl, fun f_treeSize a_tree a_seen a_able a_places a_sizes a_clipStarts a_clipEnds post h => ?_, fun g_many b_left b_top b_width b_height b_order b_stack post J h => ?_⟩
        · refine xgo f_treeSize a_tree a_seen a_able a_places a_sizes a_clipStarts a_clipEnds post 1 e1 (br_f (by decide) (br_f (by decide) (br_t rfl ⟨vt, ?_⟩)))
          rw [ct, pd_b1]
          exact br_t c ⟨vt, nm_e h⟩
        · refine ygo g_many b_left b_top b_width b_height b_order b_stack post J 1 e1 (by decide) (br_t rfl ⟨vt, br_t (by rw [ct]; exact c) ⟨vt, nm_r (e' := upd a_visible t 1) (by rw [ct, pd_b1]) (br_f (by decide) (br_f (by decide) (br_f (by decide) (br_f (by decide) h))))⟩⟩)
      · refine ⟨-1, L, f_stacked, f_focus, f_noteCount, a_stack, upd a_visible t 0, a_enabled, a_shifts, a_notes, b_kids, b_kidCount, hM, fun _ => Iff.rfl, Or.inl rfl, fun f_treeSize a_tree a_seen a_able a_places a_sizes a_clipStarts a_clipEnds post h => ?_, fun g_many b_left b_top b_width b_height b_order b_stack post J h => ?_⟩
        · refine xgo f_treeSize a_tree a_seen a_able a_places a_sizes a_clipStarts a_clipEnds post 1 e1 (br_f (by decide) (br_f (by decide) (br_t rfl ⟨vt, ?_⟩)))
          rw [ct, pd_b0]
          exact br_f c ⟨vt, nm_e h⟩
        · refine ygo g_many b_left b_top b_width b_height b_order b_stack post J 1 e1 (by decide) (br_t rfl ⟨vt, br_f (by rw [ct]; exact c) ⟨vt, nm_r (e' := upd a_visible t 0) (by rw [ct, pd_b0]) (br_f (by decide) (br_f (by decide) (br_f (by decide) (br_f (by decide) h))))⟩⟩)
    · by_cases e2 : a_effects w = 2
      · by_cases c : a_enabled t = 0
        · refine ⟨-1, L, f_stacked, f_focus, f_noteCount, a_stack, a_visible, upd a_enabled t 1, a_shifts, a_notes, b_kids, b_kidCount, hM, fun _ => Iff.rfl, Or.inl rfl, fun f_treeSize a_tree a_seen a_able a_places a_sizes a_clipStarts a_clipEnds post h => ?_, fun g_many b_left b_top b_width b_height b_order b_stack post J h => ?_⟩
          · refine xgo f_treeSize a_tree a_seen a_able a_places a_sizes a_clipStarts a_clipEnds post 2 e2 (br_f (by decide) (br_f (by decide) (br_f (by decide) (br_t rfl ⟨vt, ?_⟩))))
            rw [ct, pd_b1]
            exact br_t c ⟨vt, nm_e h⟩
          · refine ygo g_many b_left b_top b_width b_height b_order b_stack post J 2 e2 (by decide) (br_f (by decide) (br_t rfl ⟨vt, br_t (by rw [ct]; exact c) ⟨vt, nm_r (e' := upd a_enabled t 1) (by rw [ct, pd_b1]) (br_f (by decide) (br_f (by decide) (br_f (by decide) h)))⟩⟩))
        · refine ⟨-1, L, f_stacked, f_focus, f_noteCount, a_stack, a_visible, upd a_enabled t 0, a_shifts, a_notes, b_kids, b_kidCount, hM, fun _ => Iff.rfl, Or.inl rfl, fun f_treeSize a_tree a_seen a_able a_places a_sizes a_clipStarts a_clipEnds post h => ?_, fun g_many b_left b_top b_width b_height b_order b_stack post J h => ?_⟩
          · refine xgo f_treeSize a_tree a_seen a_able a_places a_sizes a_clipStarts a_clipEnds post 2 e2 (br_f (by decide) (br_f (by decide) (br_f (by decide) (br_t rfl ⟨vt, ?_⟩))))
            rw [ct, pd_b0]
            exact br_f c ⟨vt, nm_e h⟩
          · refine ygo g_many b_left b_top b_width b_height b_order b_stack post J 2 e2 (by decide) (br_f (by decide) (br_t rfl ⟨vt, br_f (by rw [ct]; exact c) ⟨vt, nm_r (e' := upd a_enabled t 0) (by rw [ct, pd_b0]) (br_f (by decide) (br_f (by decide) (br_f (by decide) h)))⟩⟩))
      · by_cases e3 : a_effects w = 3
        · by_cases t0 : t = 0
          · subst t0
            refine ⟨-1, L, f_stacked, f_focus, f_noteCount, a_stack, a_visible, a_enabled, a_shifts, a_notes, b_kids, b_kidCount, hM, fun _ => Iff.rfl, Or.inl rfl, fun f_treeSize a_tree a_seen a_able a_places a_sizes a_clipStarts a_clipEnds post h => ?_, fun g_many b_left b_top b_width b_height b_order b_stack post J h => ?_⟩
            · exact xgo f_treeSize a_tree a_seen a_able a_places a_sizes a_clipStarts a_clipEnds post 3 e3 (br_f (by decide) (br_f (by decide) (br_f (by decide) (br_f (by decide) (br_t rfl (br_t rfl h))))))
            · exact ygo g_many b_left b_top b_width b_height b_order b_stack post J 3 e3 (by decide) (br_f (by decide) (br_f (by decide) (br_t rfl (br_t (Int32.le_refl _) (br_f (by decide) (br_f (by decide) h))))))
          · have htL' : t ∈ L := htL.resolve_left t0
            obtain ⟨p, hp, ep, _⟩ := hB.2.2.2.2 t htL'
            have hp12 := pd_12lt hB.2.1 hp
            have hL := pd_len11' hB
            have hc : ∀ c, c ∈ L → c < 12 := fun c hc => (hB.2.1 c hc).2
            have hKl : (pd_kd a_parents L p).length ≤ 11 := Nat.le_trans (List.length_filter_le _ _) hL
            obtain ⟨hk1, hk2⟩ := hK p hp
            have hKc : ∀ c, c ∈ pd_kd a_parents L p → c < 12 := fun c hc' => hc c (pd_mkd.mp hc').1
            have other : ∀ q, (q = 0 ∨ q ∈ L) → q ≠ p → ¬ a_parents t = nI q := fun q hq' hqp z => hqp (pd_im (z.symm.trans ep) (by have := pd_12lt hB.2.1 hq'; omega) (by omega))
            have hB' := pd_BIr hB (pd_hiN (w := t) hB.1) (pd_hiM htL')
            -- what the two sides' lists become: fixed arrays
            obtain ⟨n, st, hS', hx⟩ := px_raiseE (f_over := f_over) (f_pressed := f_pressed) (f_focus := f_focus) (f_waiting := f_waiting) (f_noteCount := f_noteCount) (a_there := a_there) (a_parents := a_parents) (a_kinds := a_kinds) (a_colours := a_colours) (a_weights := a_weights) (a_gaps := a_gaps) (a_layouts := a_layouts) (a_values := a_values) (a_effects := a_effects) (a_targets := a_targets) (a_visible := a_visible) (a_enabled := a_enabled) (a_on := a_on) (a_wishedPlaces := a_wishedPlaces) (a_wishedSizes := a_wishedSizes) (a_shifts := a_shifts) (a_eventKinds := a_eventKinds) (a_eventXs := a_eventXs) (a_eventYs := a_eventYs) (a_notes := a_notes) (a_pixels := a_pixels) ht (by omega) hS hL hc
            obtain ⟨ki, s1, s2, hy⟩ := py_hiE (g_waiting := g_waiting) (g_acted := g_acted) (f_noteCount := f_noteCount) (f_over := f_over) (f_pressed := f_pressed) (f_focus := f_focus) (a_there := a_there) (a_parents := a_parents) (a_kinds := a_kinds) (a_colours := a_colours) (a_weights := a_weights) (a_gaps := a_gaps) (a_layouts := a_layouts) (a_values := a_values) (a_effects := a_effects) (a_targets := a_targets) (a_visible := a_visible) (a_enabled := a_enabled) (a_on := a_on) (a_wishedPlaces := a_wishedPlaces) (a_wishedSizes := a_wishedSizes) (a_shifts := a_shifts) (a_notes := a_notes) (a_pixels := a_pixels) (b_kidCount := b_kidCount) (b_events := b_events) ht hp12 hKl ep hk1 hk2 hKc
            have hK' : pd_KD a_parents (upd b_kidCount p (nI ((pd_rm (pd_kd a_parents L p) t).length + 1))) ki (pd_rm L t ++ [t]) :=
              pd_KDr (pd_len11' hB') (pd_hiM htL') hK s2 ⟨by rw [pd_kdhi ep, List.length_append, List.length_singleton], by rw [pd_kdhi ep]; exact s1⟩ (fun q hq' hqp => pd_kdhin (other q hq' hqp))
            refine ⟨-1, pd_rm L t ++ [t], n, f_focus, f_noteCount, st, a_visible, a_enabled, a_shifts, a_notes, ki, upd b_kidCount p (nI ((pd_rm (pd_kd a_parents L p) t).length + 1)), ⟨hB', hS', hK', hV, pd_SPr (pd_hiM htL') ho, pd_SPr (pd_hiM htL') hpr, pd_SPr (pd_hiM htL') hf⟩, pd_hiM htL', Or.inl rfl, fun f_treeSize a_tree a_seen a_able a_places a_sizes a_clipStarts a_clipEnds post h => ?_, fun g_many b_left b_top b_width b_height b_order b_stack post J h => ?_⟩
            · exact xgo f_treeSize a_tree a_seen a_able a_places a_sizes a_clipStarts a_clipEnds post 3 e3 (br_f (by decide) (br_f (by decide) (br_f (by decide) (br_f (by decide) (br_t rfl (hx f_treeSize a_tree a_seen a_able a_places a_sizes a_clipStarts a_clipEnds _ h))))))
            · exact ygo g_many b_left b_top b_width b_height b_order b_stack post J 3 e3 (by decide) (br_f (by decide) (br_f (by decide) (br_t rfl (br_f (nI_nle (by omega) (by omega)) (hy g_many b_left b_top b_width b_height b_order b_stack _ (br_f (by decide) (br_f (by decide) h)))))))
        · by_cases e4 : a_effects w = 4
          · have hV' : pd_VA a_wishedPlaces a_wishedSizes a_weights a_layouts a_targets (upd (upd a_shifts (2 * t) (pd_gs (a_shifts (2 * t)))) (2 * t + 1) (pd_gs (a_shifts (2 * t + 1)))) :=
              ⟨hV.1, hV.2.1, hV.2.2.1, hV.2.2.2.1, pd_uP (P := fun x => x ≤ 20) (pd_uP (P := fun x => x ≤ 20) hV.2.2.2.2 pd_gs20) pd_gs20⟩
            have ygs : ∀ x : Int32, x ≤ 20 → (x = 20 → pd_gs x = -20) ∧ (¬ x = 20 → pd_gs x = x + 1) := by
              intro x hx
              refine ⟨fun z => by rw [z]; rfl, fun z => if_pos ?_⟩
              exact Int32.not_le.mp (fun y => z (Int32.le_antisymm hx y))
            obtain ⟨g1, g2⟩ := ygs (a_shifts (2 * t)) (hV.2.2.2.2 _ (by omega))
            obtain ⟨g3, g4⟩ := ygs (a_shifts (2 * t + 1)) (hV.2.2.2.2 _ (by omega))
            refine ⟨-1, L, f_stacked, f_focus, f_noteCount, a_stack, a_visible, a_enabled, upd (upd a_shifts (2 * t) (pd_gs (a_shifts (2 * t)))) (2 * t + 1) (pd_gs (a_shifts (2 * t + 1))), a_notes, b_kids, b_kidCount, ⟨hB, hS, hK, hV', ho, hpr, hf⟩, fun _ => Iff.rfl, Or.inl rfl, fun f_treeSize a_tree a_seen a_able a_places a_sizes a_clipStarts a_clipEnds post h => ?_, fun g_many b_left b_top b_width b_height b_order b_stack post J h => ?_⟩
            · exact xgo f_treeSize a_tree a_seen a_able a_places a_sizes a_clipStarts a_clipEnds post 4 e4 (br_f (by decide) (br_f (by decide) (br_f (by decide) (br_f (by decide) (br_f (by decide) (br_t rfl (px_grow ht h)))))))
            · rw [pd_ev, pd_od] at h
              have f129 : ∀ z, z = pd_gs (a_shifts (2 * t + 1)) → wY_happen_129 (fun u => match u with | (g_many1, g_waiting1, g_noteCount1, g_over1, g_pressed1, g_focus1, g_acted1, b_there1, b_kind1, b_wishX1, b_wishY1, b_wishW1, b_wishH1, b_colour1, b_layout1, b_gap1, b_weight1, b_shiftX1, b_shiftY1, b_visible1, b_enabled1, b_on1, b_value1, b_parent1, b_effects1, b_targets1, b_kids1, b_kidCount1, b_left1, b_top1, b_width1, b_height1, b_order1, b_stack1, b_pixels1, b_events1, b_notes1) => J (-1) g_many1 g_waiting1 g_noteCount1 g_over1 g_pressed1 g_focus1 g_acted1 b_there1 b_kind1 b_wishX1 b_wishY1 b_wishW1 b_wishH1 b_colour1 b_layout1 b_gap1 b_weight1 b_shiftX1 b_shiftY1 b_visible1 b_enabled1 b_on1 b_value1 b_parent1 b_effects1 b_targets1 b_kids1 b_kidCount1 b_left1 b_top1 b_width1 b_height1 b_order1 b_stack1 b_pixels1 b_events1 b_notes1) 4 (nI t) z (nI t) g_many g_waiting f_noteCount f_over f_pressed f_focus g_acted a_there a_kinds (fun j => a_wishedPlaces (2 * j)) (fun j => a_wishedPlaces (2 * j + 1)) (fun j => a_wishedSizes (2 * j)) (fun j => a_wishedSizes (2 * j + 1)) a_colours a_layouts a_gaps a_weights (upd (fun j => a_shifts (2 * j)) t (pd_gs (a_shifts (2 * t)))) (fun j => a_shifts (2 * j + 1)) a_visible a_enabled a_on a_values a_parents a_effects a_targets b_kids b_kidCount b_left b_top b_width b_height b_order b_stack a_pixels b_events a_notes := by
                intro z ez
                subst ez
                exact ⟨vt, nm_r (e' := upd (fun j => a_shifts (2 * j + 1)) t (pd_gs (a_shifts (2 * t + 1)))) (by rw [ct]) (br_f (by decide) h)⟩
              have f99 : ∀ z, z = pd_gs (a_shifts (2 * t)) → wY_happen_99 (fun u => match u with | (g_many1, g_waiting1, g_noteCount1, g_over1, g_pressed1, g_focus1, g_acted1, b_there1, b_kind1, b_wishX1, b_wishY1, b_wishW1, b_wishH1, b_colour1, b_layout1, b_gap1, b_weight1, b_shiftX1, b_shiftY1, b_visible1, b_enabled1, b_on1, b_value1, b_parent1, b_effects1, b_targets1, b_kids1, b_kidCount1, b_left1, b_top1, b_width1, b_height1, b_order1, b_stack1, b_pixels1, b_events1, b_notes1) => J (-1) g_many1 g_waiting1 g_noteCount1 g_over1 g_pressed1 g_focus1 g_acted1 b_there1 b_kind1 b_wishX1 b_wishY1 b_wishW1 b_wishH1 b_colour1 b_layout1 b_gap1 b_weight1 b_shiftX1 b_shiftY1 b_visible1 b_enabled1 b_on1 b_value1 b_parent1 b_effects1 b_targets1 b_kids1 b_kidCount1 b_left1 b_top1 b_width1 b_height1 b_order1 b_stack1 b_pixels1 b_events1 b_notes1) 4 (nI t) z (nI t) g_many g_waiting f_noteCount f_over f_pressed f_focus g_acted a_there a_kinds (fun j => a_wishedPlaces (2 * j)) (fun j => a_wishedPlaces (2 * j + 1)) (fun j => a_wishedSizes (2 * j)) (fun j => a_wishedSizes (2 * j + 1)) a_colours a_layouts a_gaps a_weights (fun j => a_shifts (2 * j)) (fun j => a_shifts (2 * j + 1)) a_visible a_enabled a_on a_values a_parents a_effects a_targets b_kids b_kidCount b_left b_top b_width b_height b_order b_stack a_pixels b_events a_notes := by
                intro z ez
                subst ez
                refine ⟨vt, nm_r (e' := upd (fun j => a_shifts (2 * j)) t (pd_gs (a_shifts (2 * t)))) (by rw [ct]) ⟨vt, ?_⟩⟩
                rw [ct]
                by_cases c : a_shifts (2 * t + 1) = 20
                · exact br_t c (f129 _ (g3 c).symm)
                · exact br_f c ⟨vt, f129 _ (g4 c).symm⟩
              refine ygo g_many b_left b_top b_width b_height b_order b_stack post J 4 e4 (by decide) (br_f (by decide) (br_f (by decide) (br_f (by decide) (br_t rfl ⟨vt, ?_⟩))))
              rw [ct]
              by_cases c : a_shifts (2 * t) = 20
              · exact br_t c (f99 _ (g1 c).symm)
              · exact br_f c ⟨vt, f99 _ (g2 c).symm⟩
          · by_cases e5 : a_effects w = 5
            · obtain ⟨fo, nc, ns, hfo, hx, hy⟩ := pd_give (f_stacked := f_stacked) (f_over := f_over) (f_pressed := f_pressed) (f_focus := f_focus) (f_waiting := f_waiting) (f_noteCount := f_noteCount) (a_there := a_there) (a_parents := a_parents) (a_kinds := a_kinds) (a_colours := a_colours) (a_weights := a_weights) (a_gaps := a_gaps) (a_layouts := a_layouts) (a_values := a_values) (a_effects := a_effects) (a_targets := a_targets) (a_visible := a_visible) (a_enabled := a_enabled) (a_on := a_on) (a_wishedPlaces := a_wishedPlaces) (a_wishedSizes := a_wishedSizes) (a_shifts := a_shifts) (a_stack := a_stack) (a_eventKinds := a_eventKinds) (a_eventXs := a_eventXs) (a_eventYs := a_eventYs) (a_notes := a_notes) (a_pixels := a_pixels) (g_waiting := g_waiting) (g_acted := g_acted) (b_kids := b_kids) (b_kidCount := b_kidCount) (b_events := b_events) ht
              have hf' : pd_SP L fo := by
                rcases hfo with z | z
                · rw [z]; exact hf
                · exact Or.inr ⟨t, htL, z⟩
              refine ⟨-1, L, f_stacked, fo, nc, a_stack, a_visible, a_enabled, a_shifts, ns, b_kids, b_kidCount, ⟨hB, hS, hK, hV, ho, hpr, hf'⟩, fun _ => Iff.rfl, Or.inl rfl, fun f_treeSize a_tree a_seen a_able a_places a_sizes a_clipStarts a_clipEnds post h => ?_, fun g_many b_left b_top b_width b_height b_order b_stack post J h => ?_⟩
              · exact xgo f_treeSize a_tree a_seen a_able a_places a_sizes a_clipStarts a_clipEnds post 5 e5 (br_f (by decide) (br_f (by decide) (br_f (by decide) (br_f (by decide) (br_f (by decide) (br_f (by decide) (br_t rfl (hx f_treeSize a_tree a_seen a_able a_places a_sizes a_clipStarts a_clipEnds _ h))))))))
              · exact ygo g_many b_left b_top b_width b_height b_order b_stack post J 5 e5 (by decide) (br_f (by decide) (br_f (by decide) (br_f (by decide) (br_f (by decide) (br_t rfl (hy g_many b_left b_top b_width b_height b_order b_stack _ h))))))
            · by_cases e6 : a_effects w = 6
              · refine ⟨nI t, L, f_stacked, f_focus, f_noteCount, a_stack, a_visible, a_enabled, a_shifts, a_notes, b_kids, b_kidCount, hM, fun _ => Iff.rfl, Or.inr ⟨t, ht, htL, rfl⟩, fun f_treeSize a_tree a_seen a_able a_places a_sizes a_clipStarts a_clipEnds post h => ?_, fun g_many b_left b_top b_width b_height b_order b_stack post J h => ?_⟩
                · exact xgo f_treeSize a_tree a_seen a_able a_places a_sizes a_clipStarts a_clipEnds post 6 e6 (br_f (by decide) (br_f (by decide) (br_f (by decide) (br_f (by decide) (br_f (by decide) (br_f (by decide) (br_f (by decide) (br_t rfl h))))))))
                · refine ⟨vw, nm_r (e' := nI t) (by rw [cw, et]) ⟨vt, br_f (by rw [ct]; exact c0) ⟨vw, ?_⟩⟩⟩
                  rw [cw, e6]
                  exact br_t rfl (py_hapN (by decide) (by decide) (by decide) (by decide) (by decide) h)
              · refine ⟨-1, L, f_stacked, f_focus, f_noteCount, a_stack, a_visible, a_enabled, a_shifts, a_notes, b_kids, b_kidCount, hM, fun _ => Iff.rfl, Or.inl rfl, fun f_treeSize a_tree a_seen a_able a_places a_sizes a_clipStarts a_clipEnds post h => ?_, fun g_many b_left b_top b_width b_height b_order b_stack post J h => ?_⟩
                · refine xgo f_treeSize a_tree a_seen a_able a_places a_sizes a_clipStarts a_clipEnds post _ rfl (br_c (fun _ => h) (fun k1 => br_c (fun _ => h) (fun k2 => ?_)))
                  exact br_f e1 (br_f e2 (br_f e3 (br_f e4 (br_f e5 (br_f e6 trivial)))))
                · exact ygo g_many b_left b_top b_width b_height b_order b_stack post J _ rfl e6 (py_hapN e1 e2 e3 e4 e5 h)
end PDW
end
section
section PDY
variable {f_stacked f_treeSize f_over f_pressed f_focus f_waiting f_noteCount : Int32} {a_there a_parents a_kinds a_colours a_weights a_gaps a_layouts a_values a_effects a_targets a_visible a_enabled a_on a_wishedPlaces a_wishedSizes a_shifts a_stack a_tree a_seen a_able a_places a_sizes a_clipStarts a_clipEnds a_eventKinds a_eventXs a_eventYs a_notes a_pixels : Nat → Int32}
variable {g_many g_waiting g_acted : Int32} {b_kids b_kidCount b_left b_top b_width b_height b_order b_stack b_events : Nat → Int32}
/-! acting, one after the other -/
theorem px_act0 {post : SX → Prop} (h : post (f_stacked, f_treeSize, f_over, f_pressed, f_focus, f_waiting, f_noteCount, a_there, a_parents, a_kinds, a_colours, a_weights, a_gaps, a_layouts, a_values, a_effects, a_targets, a_visible, a_enabled, a_on, a_wishedPlaces, a_wishedSizes, a_shifts, a_stack, a_tree, a_seen, a_able, a_places, a_sizes, a_clipStarts, a_clipEnds, a_eventKinds, a_eventXs, a_eventYs, a_notes, a_pixels)) : wpX_actInTurn post (f_stacked, f_treeSize, f_over, f_pressed, f_focus, f_waiting, f_noteCount, a_there, a_parents, a_kinds, a_colours, a_weights, a_gaps, a_layouts, a_values, a_effects, a_targets, a_visible, a_enabled, a_on, a_wishedPlaces, a_wishedSizes, a_shifts, a_stack, a_tree, a_seen, a_able, a_places, a_sizes, a_clipStarts, a_clipEnds, a_eventKinds, a_eventXs, a_eventYs, a_notes, a_pixels) (-1) := ⟨1, br_f (by decide) (br_t rfl h)⟩
theorem pd_act {rk : Nat → Nat} : ∀ (c t w : Nat) (m : Int32) (L : List Nat) (fs fo nc : Int32) (st vi en on sh ns ki kc : Nat → Int32), pd_cu m 12 = c → t + c = 12 → bt m w = false → (w = 0 ∨ w ∈ L) →
    pd_MM a_there a_parents L rk fs st kc ki a_wishedPlaces a_wishedSizes a_weights a_layouts a_targets sh f_over f_pressed fo →
    ∃ (m' : Int32) (L' : List Nat) (fs' fo' nc' : Int32) (st' vi' en' on' sh' ns' ki' kc' : Nat → Int32),
      pd_MM a_there a_parents L' rk fs' st' kc' ki' a_wishedPlaces a_wishedSizes a_weights a_layouts a_targets sh' f_over f_pressed fo' ∧ (∀ x, x ∈ L' ↔ x ∈ L) ∧
      (∀ (f_treeSize : Int32) (a_tree a_seen a_able a_places a_sizes a_clipStarts a_clipEnds : Nat → Int32) (post : SX → Prop), post (fs', f_treeSize, f_over, f_pressed, fo', f_waiting, nc', a_there, a_parents, a_kinds, a_colours, a_weights, a_gaps, a_layouts, a_values, a_effects, a_targets, vi', en', on', a_wishedPlaces, a_wishedSizes, sh', st', a_tree, a_seen, a_able, a_places, a_sizes, a_clipStarts, a_clipEnds, a_eventKinds, a_eventXs, a_eventYs, ns', a_pixels) →
        wX_actInTurn_7 post (c + 1) (nI w) m (nI t) fs f_treeSize f_over f_pressed fo f_waiting nc a_there a_parents a_kinds a_colours a_weights a_gaps a_layouts a_values a_effects a_targets vi en on a_wishedPlaces a_wishedSizes sh st a_tree a_seen a_able a_places a_sizes a_clipStarts a_clipEnds a_eventKinds a_eventXs a_eventYs ns a_pixels) ∧
      (∀ (g_many : Int32) (b_left b_top b_width b_height b_order b_stack : Nat → Int32) (post : SY → Prop), post (g_many, g_waiting, nc', f_over, f_pressed, fo', m', a_there, a_kinds, (fun j => a_wishedPlaces (2 * j)), (fun j => a_wishedPlaces (2 * j + 1)), (fun j => a_wishedSizes (2 * j)), (fun j => a_wishedSizes (2 * j + 1)), a_colours, a_layouts, a_gaps, a_weights, (fun j => sh' (2 * j)), (fun j => sh' (2 * j + 1)), vi', en', on', a_values, a_parents, a_effects, a_targets, ki', kc', b_left, b_top, b_width, b_height, b_order, b_stack, a_pixels, b_events, ns') →
        wY_act_2 post (c + 1) (nI w) g_many g_waiting nc f_over f_pressed fo m a_there a_kinds (fun j => a_wishedPlaces (2 * j)) (fun j => a_wishedPlaces (2 * j + 1)) (fun j => a_wishedSizes (2 * j)) (fun j => a_wishedSizes (2 * j + 1)) a_colours a_layouts a_gaps a_weights (fun j => sh (2 * j)) (fun j => sh (2 * j + 1)) vi en on a_values a_parents a_effects a_targets ki kc b_left b_top b_width b_height b_order b_stack a_pixels b_events ns) := by
  intro c
  induction c with
  | zero =>
    intro t w m L fs fo nc st vi en on sh ns ki kc hc ht hb hw hM
    have hw12 := pd_12lt hM.1.2.1 hw
    have := pd_cuS m hb 12 hw12 (by omega)
    omega
  | succ c ih =>
    intro t w m L fs fo nc st vi en on sh ns ki kc hc ht hb hw hM
    have hw12 := pd_12lt hM.1.2.1 hw
    have hcu := pd_cuS m hb 12 hw12 (by omega)
    have vw : vp_in (nI w) 12 := vp_in_nI hw12 (by omega)
    have cw : (nI w).toNatClampNeg = w := pd_cl (by omega)
    obtain ⟨on1, hon⟩ : ∃ on1, (a_kinds w = 2 ∧ on w = 0 ∧ on1 = upd on w 1) ∨ (a_kinds w = 2 ∧ ¬ on w = 0 ∧ on1 = upd on w 0) ∨ (¬ a_kinds w = 2 ∧ on1 = on) := by
      by_cases k2 : a_kinds w = 2
      · by_cases k3 : on w = 0
        · exact ⟨_, Or.inl ⟨k2, k3, rfl⟩⟩
        · exact ⟨_, Or.inr (Or.inl ⟨k2, k3, rfl⟩)⟩
      · exact ⟨_, Or.inr (Or.inr ⟨k2, rfl⟩)⟩
    obtain ⟨r, L1, fs1, fo1, nc1, st1, vi1, en1, sh1, ns1, ki1, kc1, hM1, hL1, hr, hx, hy⟩ := pd_work (f_stacked := fs) (f_over := f_over) (f_pressed := f_pressed) (f_focus := fo) (f_waiting := f_waiting) (f_noteCount := (nc + 1)) (a_there := a_there) (a_parents := a_parents) (a_kinds := a_kinds) (a_colours := a_colours) (a_weights := a_weights) (a_gaps := a_gaps) (a_layouts := a_layouts) (a_values := a_values) (a_effects := a_effects) (a_targets := a_targets) (a_visible := vi) (a_enabled := en) (a_on := on1) (a_wishedPlaces := a_wishedPlaces) (a_wishedSizes := a_wishedSizes) (a_shifts := sh) (a_stack := st) (a_eventKinds := a_eventKinds) (a_eventXs := a_eventXs) (a_eventYs := a_eventYs) (a_notes := (upd ns (nc &&& 15).toNatClampNeg (96 + nI w))) (a_pixels := a_pixels) (g_waiting := g_waiting) (g_acted := (m ||| ((1 : Int32) <<< (nI w &&& 31)))) (b_kids := ki) (b_kidCount := kc) (b_events := b_events) hw12 hM
    -- X and Y up to the effect
    have xs : ∀ (f_treeSize : Int32) (a_tree a_seen a_able a_places a_sizes a_clipStarts a_clipEnds : Nat → Int32) (post : SX → Prop) (n : Nat), ((r = -1 → wX_actInTurn_89 post (wX_actInTurn_7 post n) (m ||| ((1 : Int32) <<< (nI w &&& 31))) (nI t) r fs1 f_treeSize f_over f_pressed fo1 f_waiting nc1 a_there a_parents a_kinds a_colours a_weights a_gaps a_layouts a_values a_effects a_targets vi1 en1 on1 a_wishedPlaces a_wishedSizes sh1 st1 a_tree a_seen a_able a_places a_sizes a_clipStarts a_clipEnds a_eventKinds a_eventXs a_eventYs ns1 a_pixels) ∧ (¬ r = -1 → ((((m ||| ((1 : Int32) <<< (nI w &&& 31))) >>> (r &&& 31)) &&& 1 = 0 → wX_actInTurn_90 post (wX_actInTurn_7 post n) (m ||| ((1 : Int32) <<< (nI w &&& 31))) (nI t) r 1 fs1 f_treeSize f_over f_pressed fo1 f_waiting nc1 a_there a_parents a_kinds a_colours a_weights a_gaps a_layouts a_values a_effects a_targets vi1 en1 on1 a_wishedPlaces a_wishedSizes sh1 st1 a_tree a_seen a_able a_places a_sizes a_clipStarts a_clipEnds a_eventKinds a_eventXs a_eventYs ns1 a_pixels) ∧ (¬ ((m ||| ((1 : Int32) <<< (nI w &&& 31))) >>> (r &&& 31)) &&& 1 = 0 → wX_actInTurn_89 post (wX_actInTurn_7 post n) (m ||| ((1 : Int32) <<< (nI w &&& 31))) (nI t) r fs1 f_treeSize f_over f_pressed fo1 f_waiting nc1 a_there a_parents a_kinds a_colours a_weights a_gaps a_layouts a_values a_effects a_targets vi1 en1 on1 a_wishedPlaces a_wishedSizes sh1 st1 a_tree a_seen a_able a_places a_sizes a_clipStarts a_clipEnds a_eventKinds a_eventXs a_eventYs ns1 a_pixels)))) →
        wX_actInTurn_7 post (n + 1) (nI w) m (nI t) fs f_treeSize f_over f_pressed fo f_waiting nc a_there a_parents a_kinds a_colours a_weights a_gaps a_layouts a_values a_effects a_targets vi en on a_wishedPlaces a_wishedSizes sh st a_tree a_seen a_able a_places a_sizes a_clipStarts a_clipEnds a_eventKinds a_eventXs a_eventYs ns a_pixels := by
      intro f_treeSize a_tree a_seen a_able a_places a_sizes a_clipStarts a_clipEnds post n h
      have f63 := hx f_treeSize a_tree a_seen a_able a_places a_sizes a_clipStarts a_clipEnds (fun r_43 u => match u with | (f_stacked1, f_treeSize1, f_over1, f_pressed1, f_focus1, f_waiting1, f_noteCount1, a_there1, a_parents1, a_kinds1, a_colours1, a_weights1, a_gaps1, a_layouts1, a_values1, a_effects1, a_targets1, a_visible1, a_enabled1, a_on1, a_wishedPlaces1, a_wishedSizes1, a_shifts1, a_stack1, a_tree1, a_seen1, a_able1, a_places1, a_sizes1, a_clipStarts1, a_clipEnds1, a_eventKinds1, a_eventXs1, a_eventYs1, a_notes1, a_pixels1) => ((r_43 = -1 → wX_actInTurn_89 post (wX_actInTurn_7 post n) (m ||| ((1 : Int32) <<< (nI w &&& 31))) (nI t) r_43 f_stacked1 f_treeSize1 f_over1 f_pressed1 f_focus1 f_waiting1 f_noteCount1 a_there1 a_parents1 a_kinds1 a_colours1 a_weights1 a_gaps1 a_layouts1 a_values1 a_effects1 a_targets1 a_visible1 a_enabled1 a_on1 a_wishedPlaces1 a_wishedSizes1 a_shifts1 a_stack1 a_tree1 a_seen1 a_able1 a_places1 a_sizes1 a_clipStarts1 a_clipEnds1 a_eventKinds1 a_eventXs1 a_eventYs1 a_notes1 a_pixels1) ∧ (¬ r_43 = -1 → ((((m ||| ((1 : Int32) <<< (nI w &&& 31))) >>> (r_43 &&& 31)) &&& 1 = 0 → wX_actInTurn_90 post (wX_actInTurn_7 post n) (m ||| ((1 : Int32) <<< (nI w &&& 31))) (nI t) r_43 1 f_stacked1 f_treeSize1 f_over1 f_pressed1 f_focus1 f_waiting1 f_noteCount1 a_there1 a_parents1 a_kinds1 a_colours1 a_weights1 a_gaps1 a_layouts1 a_values1 a_effects1 a_targets1 a_visible1 a_enabled1 a_on1 a_wishedPlaces1 a_wishedSizes1 a_shifts1 a_stack1 a_tree1 a_seen1 a_able1 a_places1 a_sizes1 a_clipStarts1 a_clipEnds1 a_eventKinds1 a_eventXs1 a_eventYs1 a_notes1 a_pixels1) ∧ (¬ ((m ||| ((1 : Int32) <<< (nI w &&& 31))) >>> (r_43 &&& 31)) &&& 1 = 0 → wX_actInTurn_89 post (wX_actInTurn_7 post n) (m ||| ((1 : Int32) <<< (nI w &&& 31))) (nI t) r_43 f_stacked1 f_treeSize1 f_over1 f_pressed1 f_focus1 f_waiting1 f_noteCount1 a_there1 a_parents1 a_kinds1 a_colours1 a_weights1 a_gaps1 a_layouts1 a_values1 a_effects1 a_targets1 a_visible1 a_enabled1 a_on1 a_wishedPlaces1 a_wishedSizes1 a_shifts1 a_stack1 a_tree1 a_seen1 a_able1 a_places1 a_sizes1 a_clipStarts1 a_clipEnds1 a_eventKinds1 a_eventXs1 a_eventYs1 a_notes1 a_pixels1))))) h
      rw [wX_actInTurn_7]
      refine br_f (nI_ge (b := 12) (by omega) (by omega)) (br_f (pd_ne1 (by omega)) (nm_e (px_note ⟨vw, ?_⟩)))
      rw [cw]
      rcases hon with ⟨k2, k3, eo⟩ | ⟨k2, k3, eo⟩ | ⟨k2, eo⟩
      · subst eo
        exact br_t k2 ⟨vw, br_t k3 ⟨vw, nm_r (e' := upd on w 1) (by rw [cw, pd_b1]) f63⟩⟩
      · subst eo
        exact br_t k2 ⟨vw, br_f k3 ⟨vw, nm_r (e' := upd on w 0) (by rw [cw, pd_b0]) f63⟩⟩
      · subst eo
        exact br_f k2 f63
    have ys : ∀ (g_many : Int32) (b_left b_top b_width b_height b_order b_stack : Nat → Int32) (post : SY → Prop) (n : Nat), wY_act_2 post n r g_many g_waiting nc1 f_over f_pressed fo1 (m ||| ((1 : Int32) <<< (nI w &&& 31))) a_there a_kinds (fun j => a_wishedPlaces (2 * j)) (fun j => a_wishedPlaces (2 * j + 1)) (fun j => a_wishedSizes (2 * j)) (fun j => a_wishedSizes (2 * j + 1)) a_colours a_layouts a_gaps a_weights (fun j => sh1 (2 * j)) (fun j => sh1 (2 * j + 1)) vi1 en1 on1 a_values a_parents a_effects a_targets ki1 kc1 b_left b_top b_width b_height b_order b_stack a_pixels b_events ns1 →
        wY_act_2 post (n + 1) (nI w) g_many g_waiting nc f_over f_pressed fo m a_there a_kinds (fun j => a_wishedPlaces (2 * j)) (fun j => a_wishedPlaces (2 * j + 1)) (fun j => a_wishedSizes (2 * j)) (fun j => a_wishedSizes (2 * j + 1)) a_colours a_layouts a_gaps a_weights (fun j => sh (2 * j)) (fun j => sh (2 * j + 1)) vi en on a_values a_parents a_effects a_targets ki kc b_left b_top b_width b_height b_order b_stack a_pixels b_events ns := by
      intro g_many b_left b_top b_width b_height b_order b_stack post n h
      have f67 := hy g_many b_left b_top b_width b_height b_order b_stack post (wY_act_2 post n) h
      rw [wY_act_2]
      refine br_f (nI_pos (by omega)) (br_t ((pd_bt0 m (by omega)).mpr hb) (nm_e (py_note ⟨vw, ?_⟩)))
      rw [cw]
      rcases hon with ⟨k2, k3, eo⟩ | ⟨k2, k3, eo⟩ | ⟨k2, eo⟩
      · subst eo
        exact br_t k2 ⟨vw, br_t k3 ⟨vw, nm_r (e' := upd on w 1) (by rw [cw, pd_b1]) f67⟩⟩
      · subst eo
        exact br_t k2 ⟨vw, br_f k3 ⟨vw, nm_r (e' := upd on w 0) (by rw [cw, pd_b0]) f67⟩⟩
      · subst eo
        exact br_f k2 f67
    have xend : ∀ (f_treeSize : Int32) (a_tree a_seen a_able a_places a_sizes a_clipStarts a_clipEnds : Nat → Int32) (post : SX → Prop), post (fs1, f_treeSize, f_over, f_pressed, fo1, f_waiting, nc1, a_there, a_parents, a_kinds, a_colours, a_weights, a_gaps, a_layouts, a_values, a_effects, a_targets, vi1, en1, on1, a_wishedPlaces, a_wishedSizes, sh1, st1, a_tree, a_seen, a_able, a_places, a_sizes, a_clipStarts, a_clipEnds, a_eventKinds, a_eventXs, a_eventYs, ns1, a_pixels) → wX_actInTurn_89 post (wX_actInTurn_7 post (c + 1)) (m ||| ((1 : Int32) <<< (nI w &&& 31))) (nI t) r fs1 f_treeSize f_over f_pressed fo1 f_waiting nc1 a_there a_parents a_kinds a_colours a_weights a_gaps a_layouts a_values a_effects a_targets vi1 en1 on1 a_wishedPlaces a_wishedSizes sh1 st1 a_tree a_seen a_able a_places a_sizes a_clipStarts a_clipEnds a_eventKinds a_eventXs a_eventYs ns1 a_pixels := by
      intro f_treeSize a_tree a_seen a_able a_places a_sizes a_clipStarts a_clipEnds post h
      refine br_t rfl (nm_r (nI_1 t) ?_)
      rw [wX_actInTurn_7]
      exact br_c (fun _ => h) (fun _ => br_t rfl h)
    rcases hr with e | ⟨t1, ht1, ht1L, e⟩
    · refine ⟨m ||| ((1 : Int32) <<< (nI w &&& 31)), L1, fs1, fo1, nc1, st1, vi1, en1, on1, sh1, ns1, ki1, kc1, hM1, hL1, fun f_treeSize a_tree a_seen a_able a_places a_sizes a_clipStarts a_clipEnds post h => xs f_treeSize a_tree a_seen a_able a_places a_sizes a_clipStarts a_clipEnds post (c + 1) (br_t e (xend f_treeSize a_tree a_seen a_able a_places a_sizes a_clipStarts a_clipEnds post h)), fun g_many b_left b_top b_width b_height b_order b_stack post h => ys g_many b_left b_top b_width b_height b_order b_stack post (c + 1) ?_⟩
      rw [wY_act_2]
      exact br_t (by rw [e]; decide) h
    · have nr : ¬ r = -1 := by rw [e]; exact pd_ne1 (by omega)
      by_cases hb1 : bt (m ||| ((1 : Int32) <<< (nI w &&& 31))) t1 = false
      · have ht1' : t1 = 0 ∨ t1 ∈ L1 := ht1L.imp id (fun z => (hL1 t1).mpr z)
        obtain ⟨m2, L2, fs2, fo2, nc2, st2, vi2, en2, on2, sh2, ns2, ki2, kc2, hM2, hL2, hx2, hy2⟩ := ih (t + 1) t1 (m ||| ((1 : Int32) <<< (nI w &&& 31))) L1 fs1 fo1 nc1 st1 vi1 en1 on1 sh1 ns1 ki1 kc1 (by omega) (by omega) hb1 ht1' hM1
        subst e
        refine ⟨m2, L2, fs2, fo2, nc2, st2, vi2, en2, on2, sh2, ns2, ki2, kc2, hM2, fun x => (hL2 x).trans (hL1 x), fun f_treeSize a_tree a_seen a_able a_places a_sizes a_clipStarts a_clipEnds post h => xs f_treeSize a_tree a_seen a_able a_places a_sizes a_clipStarts a_clipEnds post (c + 1) (br_f nr (br_t ((pd_bt0 _ (by omega)).mpr hb1) (br_f (by decide) (nm_r (nI_1 t) (hx2 f_treeSize a_tree a_seen a_able a_places a_sizes a_clipStarts a_clipEnds post h))))), fun g_many b_left b_top b_width b_height b_order b_stack post h => ys g_many b_left b_top b_width b_height b_order b_stack post (c + 1) (hy2 g_many b_left b_top b_width b_height b_order b_stack post h)⟩
      · refine ⟨m ||| ((1 : Int32) <<< (nI w &&& 31)), L1, fs1, fo1, nc1, st1, vi1, en1, on1, sh1, ns1, ki1, kc1, hM1, hL1, fun f_treeSize a_tree a_seen a_able a_places a_sizes a_clipStarts a_clipEnds post h => xs f_treeSize a_tree a_seen a_able a_places a_sizes a_clipStarts a_clipEnds post (c + 1) (br_f nr (br_f ?_ (xend f_treeSize a_tree a_seen a_able a_places a_sizes a_clipStarts a_clipEnds post h))), fun g_many b_left b_top b_width b_height b_order b_stack post h => ys g_many b_left b_top b_width b_height b_order b_stack post (c + 1) ?_⟩
        · rw [e]; exact fun z => hb1 ((pd_bt0 _ (by omega)).mp z)
        · rw [wY_act_2, e]
          exact br_f (nI_pos (by omega)) (br_f (fun z => hb1 ((pd_bt0 _ (by omega)).mp z)) h)
/-- one widget acts: both sides -/
theorem pd_act1 {w : Nat} {L : List Nat} {rk : Nat → Nat} (hw : w = 0 ∨ w ∈ L) (hM : pd_MM a_there a_parents L rk f_stacked a_stack b_kidCount b_kids a_wishedPlaces a_wishedSizes a_weights a_layouts a_targets a_shifts f_over f_pressed f_focus) : ∃ (m' : Int32) (L' : List Nat) (fs' fo' nc' : Int32) (st' vi' en' on' sh' ns' ki' kc' : Nat → Int32),
      pd_MM a_there a_parents L' rk fs' st' kc' ki' a_wishedPlaces a_wishedSizes a_weights a_layouts a_targets sh' f_over f_pressed fo' ∧ (∀ x, x ∈ L' ↔ x ∈ L) ∧
      (∀ (f_treeSize : Int32) (a_tree a_seen a_able a_places a_sizes a_clipStarts a_clipEnds : Nat → Int32) (post : SX → Prop), post (fs', f_treeSize, f_over, f_pressed, fo', f_waiting, nc', a_there, a_parents, a_kinds, a_colours, a_weights, a_gaps, a_layouts, a_values, a_effects, a_targets, vi', en', on', a_wishedPlaces, a_wishedSizes, sh', st', a_tree, a_seen, a_able, a_places, a_sizes, a_clipStarts, a_clipEnds, a_eventKinds, a_eventXs, a_eventYs, ns', a_pixels) → wpX_actInTurn post (f_stacked, f_treeSize, f_over, f_pressed, f_focus, f_waiting, f_noteCount, a_there, a_parents, a_kinds, a_colours, a_weights, a_gaps, a_layouts, a_values, a_effects, a_targets, a_visible, a_enabled, a_on, a_wishedPlaces, a_wishedSizes, a_shifts, a_stack, a_tree, a_seen, a_able, a_places, a_sizes, a_clipStarts, a_clipEnds, a_eventKinds, a_eventXs, a_eventYs, a_notes, a_pixels) (nI w)) ∧
      (∀ (g_many : Int32) (b_left b_top b_width b_height b_order b_stack : Nat → Int32) (post : SY → Prop), post (g_many, g_waiting, nc', f_over, f_pressed, fo', m', a_there, a_kinds, (fun j => a_wishedPlaces (2 * j)), (fun j => a_wishedPlaces (2 * j + 1)), (fun j => a_wishedSizes (2 * j)), (fun j => a_wishedSizes (2 * j + 1)), a_colours, a_layouts, a_gaps, a_weights, (fun j => sh' (2 * j)), (fun j => sh' (2 * j + 1)), vi', en', on', a_values, a_parents, a_effects, a_targets, ki', kc', b_left, b_top, b_width, b_height, b_order, b_stack, a_pixels, b_events, ns') → wpY_act post (g_many, g_waiting, f_noteCount, f_over, f_pressed, f_focus, 0, a_there, a_kinds, (fun j => a_wishedPlaces (2 * j)), (fun j => a_wishedPlaces (2 * j + 1)), (fun j => a_wishedSizes (2 * j)), (fun j => a_wishedSizes (2 * j + 1)), a_colours, a_layouts, a_gaps, a_weights, (fun j => a_shifts (2 * j)), (fun j => a_shifts (2 * j + 1)), a_visible, a_enabled, a_on, a_values, a_parents, a_effects, a_targets, b_kids, b_kidCount, b_left, b_top, b_width, b_height, b_order, b_stack, a_pixels, b_events, a_notes) (nI w)) := by
  obtain ⟨m', L', fs', fo', nc', st', vi', en', on', sh', ns', ki', kc', hM', hL', hx, hy⟩ := pd_act (f_over := f_over) (f_pressed := f_pressed) (f_waiting := f_waiting) (a_there := a_there) (a_parents := a_parents) (a_kinds := a_kinds) (a_colours := a_colours) (a_weights := a_weights) (a_gaps := a_gaps) (a_layouts := a_layouts) (a_values := a_values) (a_effects := a_effects) (a_targets := a_targets) (a_wishedPlaces := a_wishedPlaces) (a_wishedSizes := a_wishedSizes) (a_eventKinds := a_eventKinds) (a_eventXs := a_eventXs) (a_eventYs := a_eventYs) (a_pixels := a_pixels) (g_waiting := g_waiting) (b_events := b_events) 12 0 w 0 L f_stacked f_focus f_noteCount a_stack a_visible a_enabled a_on a_shifts a_notes b_kids b_kidCount pd_cu0 rfl (b_0 w) hw hM
  exact ⟨m', L', fs', fo', nc', st', vi', en', on', sh', ns', ki', kc', hM', hL', fun f_treeSize a_tree a_seen a_able a_places a_sizes a_clipStarts a_clipEnds post h => ⟨13, hx f_treeSize a_tree a_seen a_able a_places a_sizes a_clipStarts a_clipEnds post h⟩, fun g_many b_left b_top b_width b_height b_order b_stack post h => ⟨13, hy g_many b_left b_top b_width b_height b_order b_stack post h⟩⟩
end PDY
end
section
section PDZ
variable {f_stacked f_treeSize f_over f_pressed f_focus f_waiting f_noteCount : Int32} {a_there a_parents a_kinds a_colours a_weights a_gaps a_layouts a_values a_effects a_targets a_visible a_enabled a_on a_wishedPlaces a_wishedSizes a_shifts a_stack a_tree a_seen a_able a_places a_sizes a_clipStarts a_clipEnds a_eventKinds a_eventXs a_eventYs a_notes a_pixels : Nat → Int32}
variable {g_many g_waiting g_acted : Int32} {b_kids b_kidCount b_left b_top b_width b_height b_order b_stack b_events : Nat → Int32}
theorem pd_SPneg {L : List Nat} (hL : ∀ w, w ∈ L → 0 < w ∧ w < 12) {x : Int32} (h : pd_SP L x) : x < 0 ↔ x = -1 := by
  rcases h with e | ⟨w, hw, e⟩
  · rw [e]; exact ⟨fun _ => rfl, fun _ => by decide⟩
  · have := pd_12lt hL hw
    rw [e]
    exact ⟨fun z => absurd z (nI_pos (by omega)), fun z => absurd z (pd_ne1 (by omega))⟩
theorem pd_faS {th pa : Nat → Int32} {L : List Nat} {rk : Nat → Nat} (H : pd_BI th pa L rk) (G : Nat → pd_V) (x y : Int32) : pd_SP L (pd_fa G x y (pd_ord pa L) (-1)) := by
  rcases pd_faM (G := G) (x := x) (y := y) (pd_ord pa L) (-1) with e | ⟨w, hw, e⟩
  · exact Or.inl e
  · exact Or.inr ⟨w, (pd_ordM H w).mp hw, e⟩
/-! the pointer moves -/
theorem pd_hov {L : List Nat} {rk : Nat → Nat} {G : Nat → pd_V} (x y : Int32) (hM : pd_MM a_there a_parents L rk f_stacked a_stack b_kidCount b_kids a_wishedPlaces a_wishedSizes a_weights a_layouts a_targets a_shifts f_over f_pressed f_focus) (hG : pd_LE a_parents a_wishedPlaces a_wishedSizes a_shifts a_visible a_enabled a_layouts a_gaps a_weights L G) : ∃ (ov nc : Int32) (ns : Nat → Int32), pd_SP L ov ∧
    (∀ (f_treeSize : Int32) (a_tree a_seen a_able a_places a_sizes a_clipStarts a_clipEnds : Nat → Int32) (post : SX → Prop), pd_DG G a_parents L f_treeSize a_tree a_seen a_able a_places a_sizes a_clipStarts a_clipEnds → post (f_stacked, f_treeSize, ov, f_pressed, f_focus, f_waiting, nc, a_there, a_parents, a_kinds, a_colours, a_weights, a_gaps, a_layouts, a_values, a_effects, a_targets, a_visible, a_enabled, a_on, a_wishedPlaces, a_wishedSizes, a_shifts, a_stack, a_tree, a_seen, a_able, a_places, a_sizes, a_clipStarts, a_clipEnds, a_eventKinds, a_eventXs, a_eventYs, ns, a_pixels) → wpX_hover post (f_stacked, f_treeSize, f_over, f_pressed, f_focus, f_waiting, f_noteCount, a_there, a_parents, a_kinds, a_colours, a_weights, a_gaps, a_layouts, a_values, a_effects, a_targets, a_visible, a_enabled, a_on, a_wishedPlaces, a_wishedSizes, a_shifts, a_stack, a_tree, a_seen, a_able, a_places, a_sizes, a_clipStarts, a_clipEnds, a_eventKinds, a_eventXs, a_eventYs, a_notes, a_pixels) x y) ∧
    (∀ (g_many : Int32) (b_left b_top b_width b_height b_order b_stack : Nat → Int32) (post : SY → Prop), (∀ mn od st lf tp wd hg, post (mn, g_waiting, nc, ov, f_pressed, f_focus, g_acted, a_there, a_kinds, (fun j => a_wishedPlaces (2 * j)), (fun j => a_wishedPlaces (2 * j + 1)), (fun j => a_wishedSizes (2 * j)), (fun j => a_wishedSizes (2 * j + 1)), a_colours, a_layouts, a_gaps, a_weights, (fun j => a_shifts (2 * j)), (fun j => a_shifts (2 * j + 1)), a_visible, a_enabled, a_on, a_values, a_parents, a_effects, a_targets, b_kids, b_kidCount, lf, tp, wd, hg, od, st, a_pixels, b_events, ns)) → wpY_move post (g_many, g_waiting, f_noteCount, f_over, f_pressed, f_focus, g_acted, a_there, a_kinds, (fun j => a_wishedPlaces (2 * j)), (fun j => a_wishedPlaces (2 * j + 1)), (fun j => a_wishedSizes (2 * j)), (fun j => a_wishedSizes (2 * j + 1)), a_colours, a_layouts, a_gaps, a_weights, (fun j => a_shifts (2 * j)), (fun j => a_shifts (2 * j + 1)), a_visible, a_enabled, a_on, a_values, a_parents, a_effects, a_targets, b_kids, b_kidCount, b_left, b_top, b_width, b_height, b_order, b_stack, a_pixels, b_events, a_notes) x y) := by
  obtain ⟨hB, hS, hK, hV, ho, hpr, hf⟩ := hM
  have hr := pd_faS hB G x y
  have n1 := pd_SPneg hB.2.1 ho
  have n2 := pd_SPneg hB.2.1 hr
  by_cases c : pd_fa G x y (pd_ord a_parents L) (-1) = f_over
  · refine ⟨f_over, f_noteCount, a_notes, ho, fun f_treeSize a_tree a_seen a_able a_places a_sizes a_clipStarts a_clipEnds post hD h => ?_, fun g_many b_left b_top b_width b_height b_order b_stack post h => ?_⟩
    · unfold wpX_hover
      refine px_wat (G := G) hB hD (br_t c ?_)
      rw [c]; exact h
    · unfold wpY_move
      exact py_look (G := G) hB hK hV hG (fun mn od st lf tp wd hg => br_t c (h mn od st lf tp wd hg))
  · by_cases c1 : f_over = -1
    · by_cases c2 : pd_fa G x y (pd_ord a_parents L) (-1) = -1
      · exact absurd (c2.trans c1.symm) c
      · refine ⟨pd_fa G x y (pd_ord a_parents L) (-1), f_noteCount + 1, upd a_notes (f_noteCount &&& 15).toNatClampNeg (32 + pd_fa G x y (pd_ord a_parents L) (-1)), hr, fun f_treeSize a_tree a_seen a_able a_places a_sizes a_clipStarts a_clipEnds post hD h => ?_, fun g_many b_left b_top b_width b_height b_order b_stack post h => ?_⟩
        · unfold wpX_hover
          exact px_wat (G := G) hB hD (br_f c (br_t c1 (br_f c2 (px_note h))))
        · unfold wpY_move
          exact py_look (G := G) hB hK hV hG (fun mn od st lf tp wd hg => br_f c (br_t (n1.mpr c1) (br_f (fun z => c2 (n2.mp z)) (py_note (h mn od st lf tp wd hg)))))
    · by_cases c2 : pd_fa G x y (pd_ord a_parents L) (-1) = -1
      · refine ⟨pd_fa G x y (pd_ord a_parents L) (-1), f_noteCount + 1, upd a_notes (f_noteCount &&& 15).toNatClampNeg (16 + f_over), hr, fun f_treeSize a_tree a_seen a_able a_places a_sizes a_clipStarts a_clipEnds post hD h => ?_, fun g_many b_left b_top b_width b_height b_order b_stack post h => ?_⟩
        · unfold wpX_hover
          exact px_wat (G := G) hB hD (br_f c (br_f c1 (px_note (br_t c2 h))))
        · unfold wpY_move
          exact py_look (G := G) hB hK hV hG (fun mn od st lf tp wd hg => br_f c (br_f (fun z => c1 (n1.mp z)) (py_note (br_t (n2.mpr c2) (h mn od st lf tp wd hg)))))
      · refine ⟨pd_fa G x y (pd_ord a_parents L) (-1), f_noteCount + 1 + 1, upd (upd a_notes (f_noteCount &&& 15).toNatClampNeg (16 + f_over)) ((f_noteCount + 1) &&& 15).toNatClampNeg (32 + pd_fa G x y (pd_ord a_parents L) (-1)), hr, fun f_treeSize a_tree a_seen a_able a_places a_sizes a_clipStarts a_clipEnds post hD h => ?_, fun g_many b_left b_top b_width b_height b_order b_stack post h => ?_⟩
        · unfold wpX_hover
          exact px_wat (G := G) hB hD (br_f c (br_f c1 (px_note (br_f c2 (px_note h)))))
        · unfold wpY_move
          exact py_look (G := G) hB hK hV hG (fun mn od st lf tp wd hg => br_f c (br_f (fun z => c1 (n1.mp z)) (py_note (br_f (fun z => c2 (n2.mp z)) (py_note (h mn od st lf tp wd hg))))))
/-! the focus goes round -/
theorem px_pos {post : Int32 → Prop} {N : Nat} {x : Int32} (hN : N ≤ 12) : ∀ (A B : List Nat) (i n : Nat), pd_sg a_tree i (A ++ B) → i + (A ++ B).length = N → (A ++ B).length < n → (∀ w, w ∈ A → ¬ nI w = x) →
    ((B = [] ∧ post (-1)) ∨ (∃ w R, B = w :: R ∧ nI w = x ∧ post (nI (i + A.length)))) → wX_positionInTree_2 post x f_stacked (nI N) f_over f_pressed f_focus f_waiting f_noteCount a_there a_parents a_kinds a_colours a_weights a_gaps a_layouts a_values a_effects a_targets a_visible a_enabled a_on a_wishedPlaces a_wishedSizes a_shifts a_stack a_tree a_seen a_able a_places a_sizes a_clipStarts a_clipEnds a_eventKinds a_eventXs a_eventYs a_notes a_pixels n (nI i) := by
  intro A
  induction A with
  | nil =>
    intro B i n hs hi hn _ h
    obtain ⟨n, rfl⟩ : ∃ m, n = m + 1 := ⟨n - 1, by omega⟩
    rw [wX_positionInTree_2]
    rcases h with ⟨eB, hp⟩ | ⟨w, R, eB, ew, hp⟩
    · subst eB
      have hi' : i = N := hi
      exact br_t (by rw [hi']; exact Int32.le_refl _) hp
    · subst eB
      rw [List.nil_append, List.length_cons] at hi
      refine br_f (nI_ge (by omega) (by omega)) ⟨vp_in_nI (by omega) (by omega), br_t ?_ hp⟩
      rw [pd_cl (by omega)]
      exact hs.1.trans ew
  | cons w A ih =>
    intro B i n hs hi hn hA h
    obtain ⟨n, rfl⟩ : ∃ m, n = m + 1 := ⟨n - 1, by omega⟩
    rw [List.cons_append, List.length_cons] at hi hn
    rw [wX_positionInTree_2]
    refine br_f (nI_ge (by omega) (by omega)) ⟨vp_in_nI (by omega) (by omega), br_f ?_ (nm_r (nI_1 i) (ih B (i + 1) n hs.2 (by omega) (by omega) (fun v hv => hA v (List.mem_cons_of_mem _ hv)) ?_))⟩
    · rw [pd_cl (by omega), hs.1]
      exact hA w (List.mem_cons_self ..)
    · rcases h with z | ⟨v, R, eB, ew, hp⟩
      · exact Or.inl z
      · rw [List.length_cons, show i + (A.length + 1) = i + 1 + A.length by omega] at hp
        exact Or.inr ⟨v, R, eB, ew, hp⟩
theorem py_tab13 {post : SY → Prop} {N : Nat} (hN : N ≤ 12) : ∀ (R : List Nat) (i n : Nat) (f : Int32), pd_sg b_order i R → i + R.length = N → R.length < n → (∀ w, w ∈ R → ¬ nI w = f_focus) → (∃ n44, wY_tab_44 post f (nI N) g_waiting f_noteCount f_over f_pressed f_focus g_acted a_there a_kinds (fun j => a_wishedPlaces (2 * j)) (fun j => a_wishedPlaces (2 * j + 1)) (fun j => a_wishedSizes (2 * j)) (fun j => a_wishedSizes (2 * j + 1)) a_colours a_layouts a_gaps a_weights (fun j => a_shifts (2 * j)) (fun j => a_shifts (2 * j + 1)) a_visible a_enabled a_on a_values a_parents a_effects a_targets b_kids b_kidCount b_left b_top b_width b_height b_order b_stack a_pixels b_events a_notes n44 1) → wY_tab_13 post (nI N) g_waiting f_noteCount f_over f_pressed f_focus g_acted a_there a_kinds (fun j => a_wishedPlaces (2 * j)) (fun j => a_wishedPlaces (2 * j + 1)) (fun j => a_wishedSizes (2 * j)) (fun j => a_wishedSizes (2 * j + 1)) a_colours a_layouts a_gaps a_weights (fun j => a_shifts (2 * j)) (fun j => a_shifts (2 * j + 1)) a_visible a_enabled a_on a_values a_parents a_effects a_targets b_kids b_kidCount b_left b_top b_width b_height b_order b_stack a_pixels b_events a_notes n f (nI i) := by
  intro R
  induction R with
  | nil =>
    intro i n f _ hi hn _ h
    obtain ⟨n, rfl⟩ : ∃ m, n = m + 1 := ⟨n - 1, by omega⟩
    rw [wY_tab_13]
    have hi' : i = N := hi
    exact br_t (by rw [hi']; exact Int32.le_refl _) h
  | cons w R ih =>
    intro i n f hs hi hn hR h
    obtain ⟨n, rfl⟩ : ∃ m, n = m + 1 := ⟨n - 1, by omega⟩
    rw [List.length_cons] at hi hn
    rw [wY_tab_13]
    refine br_f (nI_ge (by omega) (by omega)) ⟨vp_in_nI (by omega) (by omega), br_f ?_ (nm_r (nI_1 i) (ih (i + 1) n f hs.2 (by omega) (by omega) (fun v hv => hR v (List.mem_cons_of_mem _ hv)) h))⟩
    rw [pd_cl (by omega), hs.1]
    exact hR w (List.mem_cons_self ..)
theorem py_tab13w {post : SY → Prop} {N w : Nat} {B : List Nat} (hN : N ≤ 12) (hw : nI w = f_focus) (hB : ∀ v, v ∈ B → ¬ nI v = f_focus) : ∀ (A : List Nat) (i n : Nat) (f : Int32), pd_sg b_order i (A ++ w :: B) → i + (A ++ w :: B).length = N → (A ++ w :: B).length < n → (∀ w, w ∈ A → ¬ nI w = f_focus) →
    (∃ n44, wY_tab_44 post (nI (i + A.length)) (nI N) g_waiting f_noteCount f_over f_pressed f_focus g_acted a_there a_kinds (fun j => a_wishedPlaces (2 * j)) (fun j => a_wishedPlaces (2 * j + 1)) (fun j => a_wishedSizes (2 * j)) (fun j => a_wishedSizes (2 * j + 1)) a_colours a_layouts a_gaps a_weights (fun j => a_shifts (2 * j)) (fun j => a_shifts (2 * j + 1)) a_visible a_enabled a_on a_values a_parents a_effects a_targets b_kids b_kidCount b_left b_top b_width b_height b_order b_stack a_pixels b_events a_notes n44 1) → wY_tab_13 post (nI N) g_waiting f_noteCount f_over f_pressed f_focus g_acted a_there a_kinds (fun j => a_wishedPlaces (2 * j)) (fun j => a_wishedPlaces (2 * j + 1)) (fun j => a_wishedSizes (2 * j)) (fun j => a_wishedSizes (2 * j + 1)) a_colours a_layouts a_gaps a_weights (fun j => a_shifts (2 * j)) (fun j => a_shifts (2 * j + 1)) a_visible a_enabled a_on a_values a_parents a_effects a_targets b_kids b_kidCount b_left b_top b_width b_height b_order b_stack a_pixels b_events a_notes n f (nI i) := by
  intro A
  induction A with
  | nil =>
    intro i n f hs hi hn _ h
    obtain ⟨n, rfl⟩ : ∃ m, n = m + 1 := ⟨n - 1, by omega⟩
    rw [List.nil_append, List.length_cons] at hi hn
    rw [wY_tab_13]
    refine br_f (nI_ge (by omega) (by omega)) ⟨vp_in_nI (by omega) (by omega), br_t ?_ (nm_r (nI_1 i) (py_tab13 hN B (i + 1) n _ hs.2 (by omega) (by omega) hB h))⟩
    rw [pd_cl (by omega)]
    exact hs.1.trans hw
  | cons v A ih =>
    intro i n f hs hi hn hA h
    obtain ⟨n, rfl⟩ : ∃ m, n = m + 1 := ⟨n - 1, by omega⟩
    rw [List.cons_append, List.length_cons] at hi hn
    rw [wY_tab_13]
    refine br_f (nI_ge (by omega) (by omega)) ⟨vp_in_nI (by omega) (by omega), br_f ?_ (nm_r (nI_1 i) (ih (i + 1) n f hs.2 (by omega) (by omega) (fun v hv => hA v (List.mem_cons_of_mem _ hv)) ?_))⟩
    · rw [pd_cl (by omega), hs.1]
      exact hA v (List.mem_cons_self ..)
    · rw [List.length_cons, show i + (A.length + 1) = i + 1 + A.length by omega] at h
      exact h
theorem pd_round {L : List Nat} {rk : Nat → Nat} {G : Nat → pd_V} {N fr : Nat} (hM : pd_MM a_there a_parents L rk f_stacked a_stack b_kidCount b_kids a_wishedPlaces a_wishedSizes a_weights a_layouts a_targets a_shifts f_over f_pressed f_focus) (hG : pd_LE a_parents a_wishedPlaces a_wishedSizes a_shifts a_visible a_enabled a_layouts a_gaps a_weights L G) (hN : N = (pd_ord a_parents L).length) (hN0 : 0 < N) (hfr : fr < N) :
    ∀ (d s : Nat) (xp : Int32), s + d = N → ((xp + 1 < nI N ∧ xp + 1 = nI ((fr + 1 + s) % N)) ∨ (¬ xp + 1 < nI N ∧ (fr + 1 + s) % N = 0)) → ∃ (fo nc : Int32) (ns : Nat → Int32), pd_SP L fo ∧
    (∀ (f_treeSize : Int32) (a_tree a_seen a_able a_places a_sizes a_clipStarts a_clipEnds : Nat → Int32) (post : SX → Prop), pd_DG G a_parents L f_treeSize a_tree a_seen a_able a_places a_sizes a_clipStarts a_clipEnds → post (f_stacked, f_treeSize, f_over, f_pressed, fo, f_waiting, nc, a_there, a_parents, a_kinds, a_colours, a_weights, a_gaps, a_layouts, a_values, a_effects, a_targets, a_visible, a_enabled, a_on, a_wishedPlaces, a_wishedSizes, a_shifts, a_stack, a_tree, a_seen, a_able, a_places, a_sizes, a_clipStarts, a_clipEnds, a_eventKinds, a_eventXs, a_eventYs, ns, a_pixels) → wX_moveFocus_11 post f_stacked f_treeSize f_over f_pressed f_focus f_waiting f_noteCount a_there a_parents a_kinds a_colours a_weights a_gaps a_layouts a_values a_effects a_targets a_visible a_enabled a_on a_wishedPlaces a_wishedSizes a_shifts a_stack a_tree a_seen a_able a_places a_sizes a_clipStarts a_clipEnds a_eventKinds a_eventXs a_eventYs a_notes a_pixels (d + 1) xp (nI s)) ∧
    (∀ (g_many : Int32) (b_left b_top b_width b_height b_order b_stack : Nat → Int32) (post : SY → Prop), pd_YO G a_parents L g_many b_order b_left b_top b_width b_height → post (g_many, g_waiting, nc, f_over, f_pressed, fo, g_acted, a_there, a_kinds, (fun j => a_wishedPlaces (2 * j)), (fun j => a_wishedPlaces (2 * j + 1)), (fun j => a_wishedSizes (2 * j)), (fun j => a_wishedSizes (2 * j + 1)), a_colours, a_layouts, a_gaps, a_weights, (fun j => a_shifts (2 * j)), (fun j => a_shifts (2 * j + 1)), a_visible, a_enabled, a_on, a_values, a_parents, a_effects, a_targets, b_kids, b_kidCount, b_left, b_top, b_width, b_height, b_order, b_stack, a_pixels, b_events, ns) → wY_tab_44 post (nI fr) g_many g_waiting f_noteCount f_over f_pressed f_focus g_acted a_there a_kinds (fun j => a_wishedPlaces (2 * j)) (fun j => a_wishedPlaces (2 * j + 1)) (fun j => a_wishedSizes (2 * j)) (fun j => a_wishedSizes (2 * j + 1)) a_colours a_layouts a_gaps a_weights (fun j => a_shifts (2 * j)) (fun j => a_shifts (2 * j + 1)) a_visible a_enabled a_on a_values a_parents a_effects a_targets b_kids b_kidCount b_left b_top b_width b_height b_order b_stack a_pixels b_events a_notes (d + 1) (nI (s + 1))) := by
  obtain ⟨hB, hS, hK, hV, ho, hpr, hf⟩ := hM
  have hl := pd_ordL hB
  intro d
  induction d with
  | zero =>
    intro s xp hs _
    have e : s = N := hs
    refine ⟨f_focus, f_noteCount, a_notes, hf, fun f_treeSize a_tree a_seen a_able a_places a_sizes a_clipStarts a_clipEnds post hD h => ?_, fun g_many b_left b_top b_width b_height b_order b_stack post hO h => ?_⟩
    · obtain ⟨rfl, _, _⟩ := hD
      rw [wX_moveFocus_11]
      exact br_t (by rw [e, hN]; exact Int32.le_refl _) h
    · obtain ⟨rfl, _, _⟩ := hO
      rw [wY_tab_44]
      exact br_t (by rw [← hN]; exact nI_lt (by omega) (by omega)) h
  | succ d ih =>
    intro s xp hs hxp
    have hq : (fr + 1 + s) % N < N := Nat.mod_lt _ hN0
    have hqO : (fr + 1 + s) % N < (pd_ord a_parents L).length := hN ▸ hq
    -- the widget in question
    obtain ⟨w, ew⟩ : ∃ w, (pd_ord a_parents L)[(fr + 1 + s) % N] = w := ⟨_, rfl⟩
    have hwO : w ∈ pd_ord a_parents L := ew ▸ List.getElem_mem hqO
    have hw := (pd_ordM hB w).mp hwO
    have hw12 := pd_12lt hB.2.1 hw
    have vw : vp_in (nI w) 12 := vp_in_nI hw12 (by omega)
    have cw : (nI w).toNatClampNeg = w := pd_cl (by omega)
    have hn : ¬ nI N ≤ nI s := nI_ge (by omega) (by omega)
    -- X comes to it
    have xgo : ∀ (f_treeSize : Int32) (a_tree a_seen a_able a_places a_sizes a_clipStarts a_clipEnds : Nat → Int32) (post : SX → Prop) (J : _), pd_DG G a_parents L f_treeSize a_tree a_seen a_able a_places a_sizes a_clipStarts a_clipEnds → wX_moveFocus_32 post J (nI ((fr + 1 + s) % N)) (nI s) f_stacked f_treeSize f_over f_pressed f_focus f_waiting f_noteCount a_there a_parents a_kinds a_colours a_weights a_gaps a_layouts a_values a_effects a_targets a_visible a_enabled a_on a_wishedPlaces a_wishedSizes a_shifts a_stack a_tree a_seen a_able a_places a_sizes a_clipStarts a_clipEnds a_eventKinds a_eventXs a_eventYs a_notes a_pixels → (∀ (K : Prop), ((xp + 1 < f_treeSize → wX_moveFocus_32 post J (xp + 1) (nI s) f_stacked f_treeSize f_over f_pressed f_focus f_waiting f_noteCount a_there a_parents a_kinds a_colours a_weights a_gaps a_layouts a_values a_effects a_targets a_visible a_enabled a_on a_wishedPlaces a_wishedSizes a_shifts a_stack a_tree a_seen a_able a_places a_sizes a_clipStarts a_clipEnds a_eventKinds a_eventXs a_eventYs a_notes a_pixels) ∧ (¬ xp + 1 < f_treeSize → wX_moveFocus_32 post J 0 (nI s) f_stacked f_treeSize f_over f_pressed f_focus f_waiting f_noteCount a_there a_parents a_kinds a_colours a_weights a_gaps a_layouts a_values a_effects a_targets a_visible a_enabled a_on a_wishedPlaces a_wishedSizes a_shifts a_stack a_tree a_seen a_able a_places a_sizes a_clipStarts a_clipEnds a_eventKinds a_eventXs a_eventYs a_notes a_pixels) → K) → K) := by
      intro f_treeSize a_tree a_seen a_able a_places a_sizes a_clipStarts a_clipEnds post J hD h K hK
      obtain ⟨rfl, _, _⟩ := hD
      rw [← hN] at hK h
      apply hK
      rcases hxp with ⟨a1, a2⟩ | ⟨a1, a2⟩
      · refine br_t a1 ?_
        rw [a2]; exact h
      · refine br_f a1 ?_
        rw [a2] at h; exact h
    have x32 : ∀ (f_treeSize : Int32) (a_tree a_seen a_able a_places a_sizes a_clipStarts a_clipEnds : Nat → Int32) (post : SX → Prop) (J : _), pd_DG G a_parents L f_treeSize a_tree a_seen a_able a_places a_sizes a_clipStarts a_clipEnds → ((a_kinds w = 0 → J (nI ((fr + 1 + s) % N)) (nI (s + 1))) ∧ (¬ a_kinds w = 0 → (((G w).2.2.1 = 0 → J (nI ((fr + 1 + s) % N)) (nI (s + 1))) ∧ (¬ (G w).2.2.1 = 0 → (((G w).2.2.2.1 = 0 → J (nI ((fr + 1 + s) % N)) (nI (s + 1))) ∧ (¬ (G w).2.2.2.1 = 0 → wpX_giveFocus (fun u => match u with | (f_stacked1, f_treeSize1, f_over1, f_pressed1, f_focus1, f_waiting1, f_noteCount1, a_there1, a_parents1, a_kinds1, a_colours1, a_weights1, a_gaps1, a_layouts1, a_values1, a_effects1, a_targets1, a_visible1, a_enabled1, a_on1, a_wishedPlaces1, a_wishedSizes1, a_shifts1, a_stack1, a_tree1, a_seen1, a_able1, a_places1, a_sizes1, a_clipStarts1, a_clipEnds1, a_eventKinds1, a_eventXs1, a_eventYs1, a_notes1, a_pixels1) => post (f_stacked1, f_treeSize1, f_over1, f_pressed1, f_focus1, f_waiting1, f_noteCount1, a_there1, a_parents1, a_kinds1, a_colours1, a_weights1, a_gaps1, a_layouts1, a_values1, a_effects1, a_targets1, a_visible1, a_enabled1, a_on1, a_wishedPlaces1, a_wishedSizes1, a_shifts1, a_stack1, a_tree1, a_seen1, a_able1, a_places1, a_sizes1, a_clipStarts1, a_clipEnds1, a_eventKinds1, a_eventXs1, a_eventYs1, a_notes1, a_pixels1)) (f_stacked, f_treeSize, f_over, f_pressed, f_focus, f_waiting, f_noteCount, a_there, a_parents, a_kinds, a_colours, a_weights, a_gaps, a_layouts, a_values, a_effects, a_targets, a_visible, a_enabled, a_on, a_wishedPlaces, a_wishedSizes, a_shifts, a_stack, a_tree, a_seen, a_able, a_places, a_sizes, a_clipStarts, a_clipEnds, a_eventKinds, a_eventXs, a_eventYs, a_notes, a_pixels) (nI w))))))) → wX_moveFocus_32 post J (nI ((fr + 1 + s) % N)) (nI s) f_stacked f_treeSize f_over f_pressed f_focus f_waiting f_noteCount a_there a_parents a_kinds a_colours a_weights a_gaps a_layouts a_values a_effects a_targets a_visible a_enabled a_on a_wishedPlaces a_wishedSizes a_shifts a_stack a_tree a_seen a_able a_places a_sizes a_clipStarts a_clipEnds a_eventKinds a_eventXs a_eventYs a_notes a_pixels := by
      intro f_treeSize a_tree a_seen a_able a_places a_sizes a_clipStarts a_clipEnds post J hD h
      obtain ⟨_, hs2, hd⟩ := hD
      obtain ⟨_, es, ea⟩ := hd w hw
      refine ⟨vp_in_nI (by omega) (by omega), nm_r (e' := nI w) ?_ ⟨vw, ?_⟩⟩
      · rw [pd_cl (by omega)]
        have z := pd_sg_g (pd_ord a_parents L) 0 ((fr + 1 + s) % N) hqO hs2
        rw [Nat.zero_add, ew] at z
        exact z
      · rw [cw, es, ea]
        by_cases k1 : a_kinds w = 0
        · exact br_t k1 (nm_r (nI_1 s) (h.1 k1))
        · refine br_f k1 ⟨vw, ?_⟩
          by_cases k2 : (G w).2.2.1 = 0
          · exact br_t k2 (nm_r (nI_1 s) ((h.2 k1).1 k2))
          · refine br_f k2 ⟨vw, ?_⟩
            by_cases k3 : (G w).2.2.2.1 = 0
            · exact br_t k3 (nm_r (nI_1 s) (((h.2 k1).2 k2).1 k3))
            · exact br_f k3 (((h.2 k1).2 k2).2 k3)
    have y44 : ∀ (g_many : Int32) (b_left b_top b_width b_height b_order b_stack : Nat → Int32) (post : SY → Prop), pd_YO G a_parents L g_many b_order b_left b_top b_width b_height → ((a_kinds w = 0 → wY_tab_44 post (nI fr) g_many g_waiting f_noteCount f_over f_pressed f_focus g_acted a_there a_kinds (fun j => a_wishedPlaces (2 * j)) (fun j => a_wishedPlaces (2 * j + 1)) (fun j => a_wishedSizes (2 * j)) (fun j => a_wishedSizes (2 * j + 1)) a_colours a_layouts a_gaps a_weights (fun j => a_shifts (2 * j)) (fun j => a_shifts (2 * j + 1)) a_visible a_enabled a_on a_values a_parents a_effects a_targets b_kids b_kidCount b_left b_top b_width b_height b_order b_stack a_pixels b_events a_notes (d + 1) (nI (s + 1 + 1))) ∧ (¬ a_kinds w = 0 → (((G w).2.2.1 = 0 → wY_tab_44 post (nI fr) g_many g_waiting f_noteCount f_over f_pressed f_focus g_acted a_there a_kinds (fun j => a_wishedPlaces (2 * j)) (fun j => a_wishedPlaces (2 * j + 1)) (fun j => a_wishedSizes (2 * j)) (fun j => a_wishedSizes (2 * j + 1)) a_colours a_layouts a_gaps a_weights (fun j => a_shifts (2 * j)) (fun j => a_shifts (2 * j + 1)) a_visible a_enabled a_on a_values a_parents a_effects a_targets b_kids b_kidCount b_left b_top b_width b_height b_order b_stack a_pixels b_events a_notes (d + 1) (nI (s + 1 + 1))) ∧ (¬ (G w).2.2.1 = 0 → (((G w).2.2.2.1 = 0 → wY_tab_44 post (nI fr) g_many g_waiting f_noteCount f_over f_pressed f_focus g_acted a_there a_kinds (fun j => a_wishedPlaces (2 * j)) (fun j => a_wishedPlaces (2 * j + 1)) (fun j => a_wishedSizes (2 * j)) (fun j => a_wishedSizes (2 * j + 1)) a_colours a_layouts a_gaps a_weights (fun j => a_shifts (2 * j)) (fun j => a_shifts (2 * j + 1)) a_visible a_enabled a_on a_values a_parents a_effects a_targets b_kids b_kidCount b_left b_top b_width b_height b_order b_stack a_pixels b_events a_notes (d + 1) (nI (s + 1 + 1))) ∧ (¬ (G w).2.2.2.1 = 0 → wpY_give (fun u => match u with | (g_many1, g_waiting1, g_noteCount1, g_over1, g_pressed1, g_focus1, g_acted1, b_there1, b_kind1, b_wishX1, b_wishY1, b_wishW1, b_wishH1, b_colour1, b_layout1, b_gap1, b_weight1, b_shiftX1, b_shiftY1, b_visible1, b_enabled1, b_on1, b_value1, b_parent1, b_effects1, b_targets1, b_kids1, b_kidCount1, b_left1, b_top1, b_width1, b_height1, b_order1, b_stack1, b_pixels1, b_events1, b_notes1) => post (g_many1, g_waiting1, g_noteCount1, g_over1, g_pressed1, g_focus1, g_acted1, b_there1, b_kind1, b_wishX1, b_wishY1, b_wishW1, b_wishH1, b_colour1, b_layout1, b_gap1, b_weight1, b_shiftX1, b_shiftY1, b_visible1, b_enabled1, b_on1, b_value1, b_parent1, b_effects1, b_targets1, b_kids1, b_kidCount1, b_left1, b_top1, b_width1, b_height1, b_order1, b_stack1, b_pixels1, b_events1, b_notes1)) (g_many, g_waiting, f_noteCount, f_over, f_pressed, f_focus, g_acted, a_there, a_kinds, (fun j => a_wishedPlaces (2 * j)), (fun j => a_wishedPlaces (2 * j + 1)), (fun j => a_wishedSizes (2 * j)), (fun j => a_wishedSizes (2 * j + 1)), a_colours, a_layouts, a_gaps, a_weights, (fun j => a_shifts (2 * j)), (fun j => a_shifts (2 * j + 1)), a_visible, a_enabled, a_on, a_values, a_parents, a_effects, a_targets, b_kids, b_kidCount, b_left, b_top, b_width, b_height, b_order, b_stack, a_pixels, b_events, a_notes) (nI w))))))) → wY_tab_44 post (nI fr) g_many g_waiting f_noteCount f_over f_pressed f_focus g_acted a_there a_kinds (fun j => a_wishedPlaces (2 * j)) (fun j => a_wishedPlaces (2 * j + 1)) (fun j => a_wishedSizes (2 * j)) (fun j => a_wishedSizes (2 * j + 1)) a_colours a_layouts a_gaps a_weights (fun j => a_shifts (2 * j)) (fun j => a_shifts (2 * j + 1)) a_visible a_enabled a_on a_values a_parents a_effects a_targets b_kids b_kidCount b_left b_top b_width b_height b_order b_stack a_pixels b_events a_notes (d + 1 + 1) (nI (s + 1)) := by
      intro g_many b_left b_top b_width b_height b_order b_stack post hO h
      obtain ⟨rfl, ho2, _⟩ := hO
      rw [← hN] at h ⊢
      have er : nI fr + nI (s + 1) - (nI fr + nI (s + 1)) / nI N * nI N = nI ((fr + 1 + s) % N) := by
        rw [nI_add, pk_rem (by omega) hN0 (by omega), show fr + (s + 1) = fr + 1 + s by omega]
      rw [wY_tab_44]
      dsimp only
      rw [er]
      refine br_f (nI_nlt (by omega) (by omega)) ⟨nI_ne0 hN0 (by omega), vp_in_nI (by omega) (by omega), nm_r (e' := nI w) ?_ ⟨vw, ?_⟩⟩
      · rw [pd_cl (by omega)]
        have z := pd_sg_g (pd_ord a_parents L) 0 ((fr + 1 + s) % N) hqO ho2
        rw [Nat.zero_add, ew] at z
        exact z
      · rw [cw]
        by_cases k1 : a_kinds w = 0
        · exact br_t k1 (nm_r (nI_1 _) (h.1 k1))
        · refine br_f k1 (py_seen (G := G) hB hG w hw (fun k2 => br_f (by decide) (py_able (G := G) hB hG w hw (fun k3 => br_f (by decide) (((h.2 k1).2 k2).2 k3)) (fun k3 => br_t rfl (nm_r (nI_1 _) (((h.2 k1).2 k2).1 k3))))) (fun k2 => br_t rfl (nm_r (nI_1 _) ((h.2 k1).1 k2))))
    by_cases cand : ¬ a_kinds w = 0 ∧ ¬ (G w).2.2.1 = 0 ∧ ¬ (G w).2.2.2.1 = 0
    · obtain ⟨k1, k2, k3⟩ := cand
      obtain ⟨fo, nc, ns, hfo, hx, hy⟩ := pd_give (f_stacked := f_stacked) (f_over := f_over) (f_pressed := f_pressed) (f_focus := f_focus) (f_waiting := f_waiting) (f_noteCount := f_noteCount) (a_there := a_there) (a_parents := a_parents) (a_kinds := a_kinds) (a_colours := a_colours) (a_weights := a_weights) (a_gaps := a_gaps) (a_layouts := a_layouts) (a_values := a_values) (a_effects := a_effects) (a_targets := a_targets) (a_visible := a_visible) (a_enabled := a_enabled) (a_on := a_on) (a_wishedPlaces := a_wishedPlaces) (a_wishedSizes := a_wishedSizes) (a_shifts := a_shifts) (a_stack := a_stack) (a_eventKinds := a_eventKinds) (a_eventXs := a_eventXs) (a_eventYs := a_eventYs) (a_notes := a_notes) (a_pixels := a_pixels) (g_waiting := g_waiting) (g_acted := g_acted) (b_kids := b_kids) (b_kidCount := b_kidCount) (b_events := b_events) hw12
      have hf' : pd_SP L fo := by
        rcases hfo with z | z
        · rw [z]; exact hf
        · exact Or.inr ⟨w, hw, z⟩
      refine ⟨fo, nc, ns, hf', fun f_treeSize a_tree a_seen a_able a_places a_sizes a_clipStarts a_clipEnds post hD h => ?_, fun g_many b_left b_top b_width b_height b_order b_stack post hO h => ?_⟩
      · have k := x32 f_treeSize a_tree a_seen a_able a_places a_sizes a_clipStarts a_clipEnds post (wX_moveFocus_11 post f_stacked f_treeSize f_over f_pressed f_focus f_waiting f_noteCount a_there a_parents a_kinds a_colours a_weights a_gaps a_layouts a_values a_effects a_targets a_visible a_enabled a_on a_wishedPlaces a_wishedSizes a_shifts a_stack a_tree a_seen a_able a_places a_sizes a_clipStarts a_clipEnds a_eventKinds a_eventXs a_eventYs a_notes a_pixels (d + 1)) hD (br_f k1 (br_f k2 (br_f k3 (hx f_treeSize a_tree a_seen a_able a_places a_sizes a_clipStarts a_clipEnds _ h))))
        rw [wX_moveFocus_11]
        refine br_f ?_ (nm_e (xgo f_treeSize a_tree a_seen a_able a_places a_sizes a_clipStarts a_clipEnds post _ hD k _ id))
        rw [hD.1, ← hN]; exact hn
      · exact y44 g_many b_left b_top b_width b_height b_order b_stack post hO (br_f k1 (br_f k2 (br_f k3 (hy g_many b_left b_top b_width b_height b_order b_stack _ h))))
    · obtain ⟨fo, nc, ns, hfo, hx, hy⟩ := ih (s + 1) (nI ((fr + 1 + s) % N)) (by omega) (by
        have e := pd_modS hN0 (fr + 1 + s)
        rw [show fr + 1 + (s + 1) = fr + 1 + s + 1 by omega, e, nI_1]
        by_cases c : N ≤ (fr + 1 + s) % N + 1
        · exact Or.inr ⟨nI_nlt c (by omega), if_pos c⟩
        · exact Or.inl ⟨nI_lt (by omega) (by omega), by rw [if_neg c]⟩)
      refine ⟨fo, nc, ns, hfo, fun f_treeSize a_tree a_seen a_able a_places a_sizes a_clipStarts a_clipEnds post hD h => ?_, fun g_many b_left b_top b_width b_height b_order b_stack post hO h => ?_⟩
      · have k0 := hx f_treeSize a_tree a_seen a_able a_places a_sizes a_clipStarts a_clipEnds post hD h
        have k := x32 f_treeSize a_tree a_seen a_able a_places a_sizes a_clipStarts a_clipEnds post (wX_moveFocus_11 post f_stacked f_treeSize f_over f_pressed f_focus f_waiting f_noteCount a_there a_parents a_kinds a_colours a_weights a_gaps a_layouts a_values a_effects a_targets a_visible a_enabled a_on a_wishedPlaces a_wishedSizes a_shifts a_stack a_tree a_seen a_able a_places a_sizes a_clipStarts a_clipEnds a_eventKinds a_eventXs a_eventYs a_notes a_pixels (d + 1)) hD (br_c (fun _ => k0) (fun k1 => br_c (fun _ => k0) (fun k2 => br_c (fun _ => k0) (fun k3 => absurd ⟨k1, k2, k3⟩ cand))))
        rw [wX_moveFocus_11]
        refine br_f ?_ (nm_e (xgo f_treeSize a_tree a_seen a_able a_places a_sizes a_clipStarts a_clipEnds post _ hD k _ id))
        rw [hD.1, ← hN]; exact hn
      · have k0 := hy g_many b_left b_top b_width b_height b_order b_stack post hO h
        exact y44 g_many b_left b_top b_width b_height b_order b_stack post hO (br_c (fun _ => k0) (fun k1 => br_c (fun _ => k0) (fun k2 => br_c (fun _ => k0) (fun k3 => absurd ⟨k1, k2, k3⟩ cand))))
end PDZ
end
section
section PEA
variable {f_stacked f_treeSize f_over f_pressed f_focus f_waiting f_noteCount : Int32} {a_there a_parents a_kinds a_colours a_weights a_gaps a_layouts a_values a_effects a_targets a_visible a_enabled a_on a_wishedPlaces a_wishedSizes a_shifts a_stack a_tree a_seen a_able a_places a_sizes a_clipStarts a_clipEnds a_eventKinds a_eventXs a_eventYs a_notes a_pixels : Nat → Int32}
variable {g_many g_waiting g_acted : Int32} {b_kids b_kidCount b_left b_top b_width b_height b_order b_stack b_events : Nat → Int32}
theorem pd_tab {L : List Nat} {rk : Nat → Nat} {G : Nat → pd_V} (hM : pd_MM a_there a_parents L rk f_stacked a_stack b_kidCount b_kids a_wishedPlaces a_wishedSizes a_weights a_layouts a_targets a_shifts f_over f_pressed f_focus) (hG : pd_LE a_parents a_wishedPlaces a_wishedSizes a_shifts a_visible a_enabled a_layouts a_gaps a_weights L G) : ∃ (fo nc : Int32) (ns : Nat → Int32), pd_SP L fo ∧
    (∀ (f_treeSize : Int32) (a_tree a_seen a_able a_places a_sizes a_clipStarts a_clipEnds : Nat → Int32) (post : SX → Prop), pd_DG G a_parents L f_treeSize a_tree a_seen a_able a_places a_sizes a_clipStarts a_clipEnds → post (f_stacked, f_treeSize, f_over, f_pressed, fo, f_waiting, nc, a_there, a_parents, a_kinds, a_colours, a_weights, a_gaps, a_layouts, a_values, a_effects, a_targets, a_visible, a_enabled, a_on, a_wishedPlaces, a_wishedSizes, a_shifts, a_stack, a_tree, a_seen, a_able, a_places, a_sizes, a_clipStarts, a_clipEnds, a_eventKinds, a_eventXs, a_eventYs, ns, a_pixels) → wpX_moveFocus post (f_stacked, f_treeSize, f_over, f_pressed, f_focus, f_waiting, f_noteCount, a_there, a_parents, a_kinds, a_colours, a_weights, a_gaps, a_layouts, a_values, a_effects, a_targets, a_visible, a_enabled, a_on, a_wishedPlaces, a_wishedSizes, a_shifts, a_stack, a_tree, a_seen, a_able, a_places, a_sizes, a_clipStarts, a_clipEnds, a_eventKinds, a_eventXs, a_eventYs, a_notes, a_pixels)) ∧
    (∀ (g_many : Int32) (b_left b_top b_width b_height b_order b_stack : Nat → Int32) (post : SY → Prop), (∀ mn od st lf tp wd hg, post (mn, g_waiting, nc, f_over, f_pressed, fo, g_acted, a_there, a_kinds, (fun j => a_wishedPlaces (2 * j)), (fun j => a_wishedPlaces (2 * j + 1)), (fun j => a_wishedSizes (2 * j)), (fun j => a_wishedSizes (2 * j + 1)), a_colours, a_layouts, a_gaps, a_weights, (fun j => a_shifts (2 * j)), (fun j => a_shifts (2 * j + 1)), a_visible, a_enabled, a_on, a_values, a_parents, a_effects, a_targets, b_kids, b_kidCount, lf, tp, wd, hg, od, st, a_pixels, b_events, ns)) → wpY_tab post (g_many, g_waiting, f_noteCount, f_over, f_pressed, f_focus, g_acted, a_there, a_kinds, (fun j => a_wishedPlaces (2 * j)), (fun j => a_wishedPlaces (2 * j + 1)), (fun j => a_wishedSizes (2 * j)), (fun j => a_wishedSizes (2 * j + 1)), a_colours, a_layouts, a_gaps, a_weights, (fun j => a_shifts (2 * j)), (fun j => a_shifts (2 * j + 1)), a_visible, a_enabled, a_on, a_values, a_parents, a_effects, a_targets, b_kids, b_kidCount, b_left, b_top, b_width, b_height, b_order, b_stack, a_pixels, b_events, a_notes)) := by
  have hM0 := hM
  obtain ⟨hB, hS, hK, hV, ho, hpr, hf⟩ := hM
  have hl := pd_ordL hB
  have hON := pd_ordN hB
  have h0O : 0 ∈ pd_ord a_parents L := (pd_ordM hB 0).mpr (Or.inl rfl)
  have hN0 : 0 < (pd_ord a_parents L).length := List.length_pos_of_mem h0O
  have hO12 : ∀ w, w ∈ pd_ord a_parents L → w < 12 := fun w hw => pd_12lt hB.2.1 ((pd_ordM hB w).mp hw)
  rcases hf with ef | ⟨w, hw, ef⟩
  · obtain ⟨fo, nc, ns, hfo, hx, hy⟩ := pd_round (f_stacked := f_stacked) (f_over := f_over) (f_pressed := f_pressed) (f_focus := f_focus) (f_waiting := f_waiting) (f_noteCount := f_noteCount) (a_there := a_there) (a_parents := a_parents) (a_kinds := a_kinds) (a_colours := a_colours) (a_weights := a_weights) (a_gaps := a_gaps) (a_layouts := a_layouts) (a_values := a_values) (a_effects := a_effects) (a_targets := a_targets) (a_visible := a_visible) (a_enabled := a_enabled) (a_on := a_on) (a_wishedPlaces := a_wishedPlaces) (a_wishedSizes := a_wishedSizes) (a_shifts := a_shifts) (a_stack := a_stack) (a_eventKinds := a_eventKinds) (a_eventXs := a_eventXs) (a_eventYs := a_eventYs) (a_notes := a_notes) (a_pixels := a_pixels) (g_waiting := g_waiting) (g_acted := g_acted) (b_kids := b_kids) (b_kidCount := b_kidCount) (b_events := b_events) hM0 hG rfl hN0 (fr := (pd_ord a_parents L).length - 1) (by omega) (pd_ord a_parents L).length 0 (-1) (by omega) (Or.inl ⟨nI_lt (a := 0) hN0 (by omega), by
      rw [show (pd_ord a_parents L).length - 1 + 1 + 0 = (pd_ord a_parents L).length by omega, Nat.mod_self]; exact nI_0.symm⟩)
    refine ⟨fo, nc, ns, hfo, fun f_treeSize a_tree a_seen a_able a_places a_sizes a_clipStarts a_clipEnds post hD h => ?_, fun g_many b_left b_top b_width b_height b_order b_stack post h => ?_⟩
    · have k := hx f_treeSize a_tree a_seen a_able a_places a_sizes a_clipStarts a_clipEnds post hD h
      obtain ⟨rfl, hs, _⟩ := hD
      unfold wpX_moveFocus
      refine ⟨(pd_ord a_parents L).length + 1, px_pos hl (pd_ord a_parents L) [] 0 _ (by rw [List.append_nil]; exact hs) (by rw [List.append_nil]; omega) (by rw [List.append_nil]; omega) (fun v hv => by rw [ef]; exact pd_ne1 (by have := hO12 v hv; omega)) (Or.inl ⟨rfl, ⟨_, k⟩⟩)⟩
    · unfold wpY_tab
      refine py_rect (G := G) hB hK hV hG (fun mn od st lf tp wd hg hO => ?_)
      have k := hy mn lf tp wd hg od st post hO (h mn od st lf tp wd hg)
      obtain ⟨rfl, hod, _⟩ := hO
      refine nm_r (pd_s hN0) ⟨(pd_ord a_parents L).length + 1, py_tab13 hl (pd_ord a_parents L) 0 _ _ hod (by omega) (by omega) (fun v hv => by rw [ef]; exact pd_ne1 (by have := hO12 v hv; omega)) ⟨_, k⟩⟩
  · obtain ⟨A, B, eO⟩ := List.append_of_mem ((pd_ordM hB w).mpr hw)
    have hlen : (pd_ord a_parents L).length = A.length + 1 + B.length := by rw [eO, List.length_append, List.length_cons]; omega
    rw [eO] at hON
    obtain ⟨_, n2, n3⟩ := List.nodup_append.mp hON
    have hw12 := pd_12lt hB.2.1 hw
    have hA : ∀ v, v ∈ A → ¬ nI v = f_focus := fun v hv z => by
      have hv12 := hO12 v (by rw [eO]; exact List.mem_append_left _ hv)
      have : v = w := pd_im (z.trans ef) (by omega) (by omega)
      exact n3 v hv w (List.mem_cons_self ..) this
    have hB2 : ∀ v, v ∈ B → ¬ nI v = f_focus := fun v hv z => by
      have hv12 := hO12 v (by rw [eO]; exact List.mem_append_right _ (List.mem_cons_of_mem _ hv))
      have : v = w := pd_im (z.trans ef) (by omega) (by omega)
      exact (List.nodup_cons.mp n2).1 (this ▸ hv)
    obtain ⟨fo, nc, ns, hfo, hx, hy⟩ := pd_round (f_stacked := f_stacked) (f_over := f_over) (f_pressed := f_pressed) (f_focus := f_focus) (f_waiting := f_waiting) (f_noteCount := f_noteCount) (a_there := a_there) (a_parents := a_parents) (a_kinds := a_kinds) (a_colours := a_colours) (a_weights := a_weights) (a_gaps := a_gaps) (a_layouts := a_layouts) (a_values := a_values) (a_effects := a_effects) (a_targets := a_targets) (a_visible := a_visible) (a_enabled := a_enabled) (a_on := a_on) (a_wishedPlaces := a_wishedPlaces) (a_wishedSizes := a_wishedSizes) (a_shifts := a_shifts) (a_stack := a_stack) (a_eventKinds := a_eventKinds) (a_eventXs := a_eventXs) (a_eventYs := a_eventYs) (a_notes := a_notes) (a_pixels := a_pixels) (g_waiting := g_waiting) (g_acted := g_acted) (b_kids := b_kids) (b_kidCount := b_kidCount) (b_events := b_events) hM0 hG rfl hN0 (fr := A.length) (by omega) (pd_ord a_parents L).length 0 (nI A.length) (by omega) (by
      rw [nI_1, Nat.add_zero]
      by_cases c : A.length + 1 < (pd_ord a_parents L).length
      · exact Or.inl ⟨nI_lt c (by omega), by rw [Nat.mod_eq_of_lt c]⟩
      · refine Or.inr ⟨nI_nlt (by omega) (by omega), ?_⟩
        rw [show A.length + 1 = (pd_ord a_parents L).length by omega, Nat.mod_self])
    refine ⟨fo, nc, ns, hfo, fun f_treeSize a_tree a_seen a_able a_places a_sizes a_clipStarts a_clipEnds post hD h => ?_, fun g_many b_left b_top b_width b_height b_order b_stack post h => ?_⟩
    · have k := hx f_treeSize a_tree a_seen a_able a_places a_sizes a_clipStarts a_clipEnds post hD h
      obtain ⟨rfl, hs, _⟩ := hD
      unfold wpX_moveFocus
      refine ⟨(pd_ord a_parents L).length + 1, px_pos hl A (w :: B) 0 _ (by rw [← eO]; exact hs) (by rw [← eO]; omega) (by rw [← eO]; omega) hA (Or.inr ⟨w, B, rfl, ef.symm, ⟨(pd_ord a_parents L).length + 1, ?_⟩⟩)⟩
      rw [Nat.zero_add]; exact k
    · unfold wpY_tab
      refine py_rect (G := G) hB hK hV hG (fun mn od st lf tp wd hg hO => ?_)
      have k := hy mn lf tp wd hg od st post hO (h mn od st lf tp wd hg)
      obtain ⟨rfl, hod, _⟩ := hO
      refine nm_e ⟨(pd_ord a_parents L).length + 1, py_tab13w hl ef.symm hB2 A 0 _ _ (by rw [← eO]; exact hod) (by rw [← eO]; omega) (by rw [← eO]; omega) hA ⟨(pd_ord a_parents L).length + 1, ?_⟩⟩
      rw [Nat.zero_add]; exact k
theorem pd_evt {L : List Nat} {rk : Nat → Nat} {G : Nat → pd_V} {j : Nat} (hj : j ≤ 4) (x y : Int32) (hM : pd_MM a_there a_parents L rk f_stacked a_stack b_kidCount b_kids a_wishedPlaces a_wishedSizes a_weights a_layouts a_targets a_shifts f_over f_pressed f_focus) (hG : pd_LE a_parents a_wishedPlaces a_wishedSizes a_shifts a_visible a_enabled a_layouts a_gaps a_weights L G) : ∃ (m' : Int32) (L' : List Nat) (fs ov pr fo nc : Int32) (st va vi en on sh ns ki kc : Nat → Int32),
    pd_MM a_there a_parents L' rk fs st kc ki a_wishedPlaces a_wishedSizes a_weights a_layouts a_targets sh ov pr fo ∧
    (∀ (f_treeSize : Int32) (a_tree a_seen a_able a_places a_sizes a_clipStarts a_clipEnds : Nat → Int32) (post : SX → Prop), pd_DG G a_parents L f_treeSize a_tree a_seen a_able a_places a_sizes a_clipStarts a_clipEnds → post (fs, f_treeSize, ov, pr, fo, f_waiting, nc, a_there, a_parents, a_kinds, a_colours, a_weights, a_gaps, a_layouts, va, a_effects, a_targets, vi, en, on, a_wishedPlaces, a_wishedSizes, sh, st, a_tree, a_seen, a_able, a_places, a_sizes, a_clipStarts, a_clipEnds, a_eventKinds, a_eventXs, a_eventYs, ns, a_pixels) → wpX_carryOut (fun r u => match u with | (f_stacked1, f_treeSize1, f_over1, f_pressed1, f_focus1, f_waiting1, f_noteCount1, a_there1, a_parents1, a_kinds1, a_colours1, a_weights1, a_gaps1, a_layouts1, a_values1, a_effects1, a_targets1, a_visible1, a_enabled1, a_on1, a_wishedPlaces1, a_wishedSizes1, a_shifts1, a_stack1, a_tree1, a_seen1, a_able1, a_places1, a_sizes1, a_clipStarts1, a_clipEnds1, a_eventKinds1, a_eventXs1, a_eventYs1, a_notes1, a_pixels1) => wpX_actInTurn post (f_stacked1, f_treeSize1, f_over1, f_pressed1, f_focus1, f_waiting1, f_noteCount1, a_there1, a_parents1, a_kinds1, a_colours1, a_weights1, a_gaps1, a_layouts1, a_values1, a_effects1, a_targets1, a_visible1, a_enabled1, a_on1, a_wishedPlaces1, a_wishedSizes1, a_shifts1, a_stack1, a_tree1, a_seen1, a_able1, a_places1, a_sizes1, a_clipStarts1, a_clipEnds1, a_eventKinds1, a_eventXs1, a_eventYs1, a_notes1, a_pixels1) r) (f_stacked, f_treeSize, f_over, f_pressed, f_focus, f_waiting, f_noteCount, a_there, a_parents, a_kinds, a_colours, a_weights, a_gaps, a_layouts, a_values, a_effects, a_targets, a_visible, a_enabled, a_on, a_wishedPlaces, a_wishedSizes, a_shifts, a_stack, a_tree, a_seen, a_able, a_places, a_sizes, a_clipStarts, a_clipEnds, a_eventKinds, a_eventXs, a_eventYs, a_notes, a_pixels) (nI j) x y) ∧
    (∀ (g_many : Int32) (b_left b_top b_width b_height b_order b_stack : Nat → Int32) (post : SY → Prop), (∀ mn od sk lf tp wd hg, post (mn, g_waiting, nc, ov, pr, fo, m', a_there, a_kinds, (fun j => a_wishedPlaces (2 * j)), (fun j => a_wishedPlaces (2 * j + 1)), (fun j => a_wishedSizes (2 * j)), (fun j => a_wishedSizes (2 * j + 1)), a_colours, a_layouts, a_gaps, a_weights, (fun j => sh (2 * j)), (fun j => sh (2 * j + 1)), vi, en, on, va, a_parents, a_effects, a_targets, ki, kc, lf, tp, wd, hg, od, sk, a_pixels, b_events, ns)) → wpY_carryOut post (g_many, g_waiting, f_noteCount, f_over, f_pressed, f_focus, g_acted, a_there, a_kinds, (fun j => a_wishedPlaces (2 * j)), (fun j => a_wishedPlaces (2 * j + 1)), (fun j => a_wishedSizes (2 * j)), (fun j => a_wishedSizes (2 * j + 1)), a_colours, a_layouts, a_gaps, a_weights, (fun j => a_shifts (2 * j)), (fun j => a_shifts (2 * j + 1)), a_visible, a_enabled, a_on, a_values, a_parents, a_effects, a_targets, b_kids, b_kidCount, b_left, b_top, b_width, b_height, b_order, b_stack, a_pixels, b_events, a_notes) (nI j) x y) := by
  have hM0 := hM
  obtain ⟨hB, hS, hK, hV, ho, hpr, hf⟩ := hM
  obtain ⟨ov, nc, ns, hov, hx, hy⟩ := pd_hov (f_stacked := f_stacked) (f_over := f_over) (f_pressed := f_pressed) (f_focus := f_focus) (f_waiting := f_waiting) (f_noteCount := f_noteCount) (a_there := a_there) (a_parents := a_parents) (a_kinds := a_kinds) (a_colours := a_colours) (a_weights := a_weights) (a_gaps := a_gaps) (a_layouts := a_layouts) (a_values := a_values) (a_effects := a_effects) (a_targets := a_targets) (a_visible := a_visible) (a_enabled := a_enabled) (a_on := a_on) (a_wishedPlaces := a_wishedPlaces) (a_wishedSizes := a_wishedSizes) (a_shifts := a_shifts) (a_stack := a_stack) (a_eventKinds := a_eventKinds) (a_eventXs := a_eventXs) (a_eventYs := a_eventYs) (a_notes := a_notes) (a_pixels := a_pixels) (g_waiting := g_waiting) (g_acted := 0) (b_kids := b_kids) (b_kidCount := b_kidCount) (b_events := b_events) x y hM0 hG
  have hM1 : pd_MM a_there a_parents L rk f_stacked a_stack b_kidCount b_kids a_wishedPlaces a_wishedSizes a_weights a_layouts a_targets a_shifts ov f_pressed f_focus := ⟨hB, hS, hK, hV, hov, hpr, hf⟩
  have n1 := pd_SPneg hB.2.1 hov
  have n2 := pd_SPneg hB.2.1 hpr
  have n3 := pd_SPneg hB.2.1 hf
  have hz : j = 0 ∨ j = 1 ∨ j = 2 ∨ j = 3 ∨ j = 4 := by omega
  rcases hz with rfl | rfl | rfl | rfl | rfl
  · refine ⟨0, L, f_stacked, ov, f_pressed, f_focus, nc, a_stack, a_values, a_visible, a_enabled, a_on, a_shifts, ns, b_kids, b_kidCount, hM1, fun f_treeSize a_tree a_seen a_able a_places a_sizes a_clipStarts a_clipEnds post hD h => ?_, fun g_many b_left b_top b_width b_height b_order b_stack post h => ?_⟩
    · exact br_f (by decide) (br_f (by decide) (br_t (by decide) (hx f_treeSize a_tree a_seen a_able a_places a_sizes a_clipStarts a_clipEnds _ hD (px_act0 h))))
    · exact br_f (by decide) (hy g_many b_left b_top b_width b_height b_order b_stack _ (fun mn od sk lf tp wd hg => br_f (by decide) (br_f (by decide) (br_f (by decide) (br_f (by decide) (h mn od sk lf tp wd hg))))))
  · have quiet : (ov = -1 ∨ ∃ w, (w = 0 ∨ w ∈ L) ∧ ov = nI w ∧ (G w).2.2.2.1 = 0) → ∃ (m' : Int32) (L' : List Nat) (fs ov pr fo nc : Int32) (st va vi en on sh ns ki kc : Nat → Int32),
        pd_MM a_there a_parents L' rk fs st kc ki a_wishedPlaces a_wishedSizes a_weights a_layouts a_targets sh ov pr fo ∧
        (∀ (f_treeSize : Int32) (a_tree a_seen a_able a_places a_sizes a_clipStarts a_clipEnds : Nat → Int32) (post : SX → Prop), pd_DG G a_parents L f_treeSize a_tree a_seen a_able a_places a_sizes a_clipStarts a_clipEnds → post (fs, f_treeSize, ov, pr, fo, f_waiting, nc, a_there, a_parents, a_kinds, a_colours, a_weights, a_gaps, a_layouts, va, a_effects, a_targets, vi, en, on, a_wishedPlaces, a_wishedSizes, sh, st, a_tree, a_seen, a_able, a_places, a_sizes, a_clipStarts, a_clipEnds, a_eventKinds, a_eventXs, a_eventYs, ns, a_pixels) → wpX_carryOut (fun r u => match u with | (f_stacked1, f_treeSize1, f_over1, f_pressed1, f_focus1, f_waiting1, f_noteCount1, a_there1, a_parents1, a_kinds1, a_colours1, a_weights1, a_gaps1, a_layouts1, a_values1, a_effects1, a_targets1, a_visible1, a_enabled1, a_on1, a_wishedPlaces1, a_wishedSizes1, a_shifts1, a_stack1, a_tree1, a_seen1, a_able1, a_places1, a_sizes1, a_clipStarts1, a_clipEnds1, a_eventKinds1, a_eventXs1, a_eventYs1, a_notes1, a_pixels1) => wpX_actInTurn post (f_stacked1, f_treeSize1, f_over1, f_pressed1, f_focus1, f_waiting1, f_noteCount1, a_there1, a_parents1, a_kinds1, a_colours1, a_weights1, a_gaps1, a_layouts1, a_values1, a_effects1, a_targets1, a_visible1, a_enabled1, a_on1, a_wishedPlaces1, a_wishedSizes1, a_shifts1, a_stack1, a_tree1, a_seen1, a_able1, a_places1, a_sizes1, a_clipStarts1, a_clipEnds1, a_eventKinds1, a_eventXs1, a_eventYs1, a_notes1, a_pixels1) r) (f_stacked, f_treeSize, f_over, f_pressed, f_focus, f_waiting, f_noteCount, a_there, a_parents, a_kinds, a_colours, a_weights, a_gaps, a_layouts, a_values, a_effects, a_targets, a_visible, a_enabled, a_on, a_wishedPlaces, a_wishedSizes, a_shifts, a_stack, a_tree, a_seen, a_able, a_places, a_sizes, a_clipStarts, a_clipEnds, a_eventKinds, a_eventXs, a_eventYs, a_notes, a_pixels) (nI 1) x y) ∧
        (∀ (g_many : Int32) (b_left b_top b_width b_height b_order b_stack : Nat → Int32) (post : SY → Prop), (∀ mn od sk lf tp wd hg, post (mn, g_waiting, nc, ov, pr, fo, m', a_there, a_kinds, (fun j => a_wishedPlaces (2 * j)), (fun j => a_wishedPlaces (2 * j + 1)), (fun j => a_wishedSizes (2 * j)), (fun j => a_wishedSizes (2 * j + 1)), a_colours, a_layouts, a_gaps, a_weights, (fun j => sh (2 * j)), (fun j => sh (2 * j + 1)), vi, en, on, va, a_parents, a_effects, a_targets, ki, kc, lf, tp, wd, hg, od, sk, a_pixels, b_events, ns)) → wpY_carryOut post (g_many, g_waiting, f_noteCount, f_over, f_pressed, f_focus, g_acted, a_there, a_kinds, (fun j => a_wishedPlaces (2 * j)), (fun j => a_wishedPlaces (2 * j + 1)), (fun j => a_wishedSizes (2 * j)), (fun j => a_wishedSizes (2 * j + 1)), a_colours, a_layouts, a_gaps, a_weights, (fun j => a_shifts (2 * j)), (fun j => a_shifts (2 * j + 1)), a_visible, a_enabled, a_on, a_values, a_parents, a_effects, a_targets, b_kids, b_kidCount, b_left, b_top, b_width, b_height, b_order, b_stack, a_pixels, b_events, a_notes) (nI 1) x y) := by
      intro hq
      refine ⟨0, L, f_stacked, ov, f_pressed, f_focus, nc, a_stack, a_values, a_visible, a_enabled, a_on, a_shifts, ns, b_kids, b_kidCount, hM1, fun f_treeSize a_tree a_seen a_able a_places a_sizes a_clipStarts a_clipEnds post hD h => ?_, fun g_many b_left b_top b_width b_height b_order b_stack post h => ?_⟩
      · refine br_f (by decide) (br_f (by decide) (br_f (by decide) (br_t (by decide) (hx f_treeSize a_tree a_seen a_able a_places a_sizes a_clipStarts a_clipEnds _ hD ?_))))
        rcases hq with e | ⟨w, hw, e, ea⟩
        · exact br_t e (px_act0 h)
        · have hw12 := pd_12lt hB.2.1 hw
          subst e
          refine br_f (pd_ne1 (by omega)) ⟨vp_in_nI hw12 (by omega), br_t ?_ (px_act0 h)⟩
          rw [pd_cl (by omega), (hD.2.2 w hw).2.2]; exact ea
      · refine br_f (by decide) (hy g_many b_left b_top b_width b_height b_order b_stack _ (fun mn od sk lf tp wd hg => br_t (by decide) ?_))
        have fin := h mn od sk lf tp wd hg
        rcases hq with e | ⟨w, hw, e, ea⟩
        · exact br_t (n1.mpr e) (br_f (by decide) (br_f (by decide) (br_f (by decide) fin)))
        · have hw12 := pd_12lt hB.2.1 hw
          subst e
          exact br_f (nI_pos (by omega)) (py_able (G := G) hB hG w hw (fun z => absurd ea z) (fun _ => br_t rfl (br_f (by decide) (br_f (by decide) (br_f (by decide) fin)))))
    rcases hov with e | ⟨w, hw, e⟩
    · exact quiet (Or.inl e)
    · by_cases ea : (G w).2.2.2.1 = 0
      · exact quiet (Or.inr ⟨w, hw, e, ea⟩)
      · have hw12 := pd_12lt hB.2.1 hw
        have hov' : pd_SP L ov := Or.inr ⟨w, hw, e⟩
        obtain ⟨fo, nc2, ns2, hfo, hgx, hgy⟩ := pd_give (f_stacked := f_stacked) (f_over := ov) (f_pressed := ov) (f_focus := f_focus) (f_waiting := f_waiting) (f_noteCount := (nc + 1)) (a_there := a_there) (a_parents := a_parents) (a_kinds := a_kinds) (a_colours := a_colours) (a_weights := a_weights) (a_gaps := a_gaps) (a_layouts := a_layouts) (a_values := a_values) (a_effects := a_effects) (a_targets := a_targets) (a_visible := a_visible) (a_enabled := a_enabled) (a_on := a_on) (a_wishedPlaces := a_wishedPlaces) (a_wishedSizes := a_wishedSizes) (a_shifts := a_shifts) (a_stack := a_stack) (a_eventKinds := a_eventKinds) (a_eventXs := a_eventXs) (a_eventYs := a_eventYs) (a_notes := (upd ns (nc &&& 15).toNatClampNeg (48 + ov))) (a_pixels := a_pixels) (g_waiting := g_waiting) (g_acted := 0) (b_kids := b_kids) (b_kidCount := b_kidCount) (b_events := b_events) hw12
        have hf' : pd_SP L fo := by
          rcases hfo with z | z
          · rw [z]; exact hf
          · exact Or.inr ⟨w, hw, z⟩
        refine ⟨0, L, f_stacked, ov, ov, fo, nc2, a_stack, a_values, a_visible, a_enabled, a_on, a_shifts, ns2, b_kids, b_kidCount, ⟨hB, hS, hK, hV, hov', hov', hf'⟩, fun f_treeSize a_tree a_seen a_able a_places a_sizes a_clipStarts a_clipEnds post hD h => ?_, fun g_many b_left b_top b_width b_height b_order b_stack post h => ?_⟩
        · have k := hgx f_treeSize a_tree a_seen a_able a_places a_sizes a_clipStarts a_clipEnds (fun u => match u with | (f_stacked1, f_treeSize1, f_over1, f_pressed1, f_focus1, f_waiting1, f_noteCount1, a_there1, a_parents1, a_kinds1, a_colours1, a_weights1, a_gaps1, a_layouts1, a_values1, a_effects1, a_targets1, a_visible1, a_enabled1, a_on1, a_wishedPlaces1, a_wishedSizes1, a_shifts1, a_stack1, a_tree1, a_seen1, a_able1, a_places1, a_sizes1, a_clipStarts1, a_clipEnds1, a_eventKinds1, a_eventXs1, a_eventYs1, a_notes1, a_pixels1) => wpX_actInTurn post (f_stacked1, f_treeSize1, f_over1, f_pressed1, f_focus1, f_waiting1, f_noteCount1, a_there1, a_parents1, a_kinds1, a_colours1, a_weights1, a_gaps1, a_layouts1, a_values1, a_effects1, a_targets1, a_visible1, a_enabled1, a_on1, a_wishedPlaces1, a_wishedSizes1, a_shifts1, a_stack1, a_tree1, a_seen1, a_able1, a_places1, a_sizes1, a_clipStarts1, a_clipEnds1, a_eventKinds1, a_eventXs1, a_eventYs1, a_notes1, a_pixels1) (-1)) (px_act0 h)
          rw [← e] at k
          refine br_f (by decide) (br_f (by decide) (br_f (by decide) (br_t (by decide) (hx f_treeSize a_tree a_seen a_able a_places a_sizes a_clipStarts a_clipEnds _ hD ?_))))
          refine br_f (by rw [e]; exact pd_ne1 (by omega)) ⟨by rw [e]; exact vp_in_nI hw12 (by omega), br_f ?_ (px_note k)⟩
          rw [e, pd_cl (by omega), (hD.2.2 w hw).2.2]; exact ea
        · refine br_f (by decide) (hy g_many b_left b_top b_width b_height b_order b_stack _ (fun mn od sk lf tp wd hg => br_t (by decide) ?_))
          have fin := h mn od sk lf tp wd hg
          have k := hgy mn lf tp wd hg od sk (fun u => match u with | (g_many1, g_waiting1, g_noteCount1, g_over1, g_pressed1, g_focus1, g_acted1, b_there1, b_kind1, b_wishX1, b_wishY1, b_wishW1, b_wishH1, b_colour1, b_layout1, b_gap1, b_weight1, b_shiftX1, b_shiftY1, b_visible1, b_enabled1, b_on1, b_value1, b_parent1, b_effects1, b_targets1, b_kids1, b_kidCount1, b_left1, b_top1, b_width1, b_height1, b_order1, b_stack1, b_pixels1, b_events1, b_notes1) => wY_carryOut_66 post (nI 1) x g_many1 g_waiting1 g_noteCount1 g_over1 g_pressed1 g_focus1 g_acted1 b_there1 b_kind1 b_wishX1 b_wishY1 b_wishW1 b_wishH1 b_colour1 b_layout1 b_gap1 b_weight1 b_shiftX1 b_shiftY1 b_visible1 b_enabled1 b_on1 b_value1 b_parent1 b_effects1 b_targets1 b_kids1 b_kidCount1 b_left1 b_top1 b_width1 b_height1 b_order1 b_stack1 b_pixels1 b_events1 b_notes1) (br_f (by decide) (br_f (by decide) (br_f (by decide) fin)))
          rw [← e] at k
          refine br_f (fun z => pd_ne1 (by omega) (e.symm.trans (n1.mp z))) ?_
          have g := py_able (G := G) hB hG (post := fun r_241 => ((r_241 = 0 → wY_carryOut_66 post (nI 1) x mn g_waiting nc ov f_pressed f_focus 0 a_there a_kinds (fun j => a_wishedPlaces (2 * j)) (fun j => a_wishedPlaces (2 * j + 1)) (fun j => a_wishedSizes (2 * j)) (fun j => a_wishedSizes (2 * j + 1)) a_colours a_layouts a_gaps a_weights (fun j => a_shifts (2 * j)) (fun j => a_shifts (2 * j + 1)) a_visible a_enabled a_on a_values a_parents a_effects a_targets b_kids b_kidCount lf tp wd hg od sk a_pixels b_events ns) ∧ (¬ r_241 = 0 → wpY_note (fun u => match u with | (g_many1, g_waiting1, g_noteCount1, g_over1, g_pressed1, g_focus1, g_acted1, b_there1, b_kind1, b_wishX1, b_wishY1, b_wishW1, b_wishH1, b_colour1, b_layout1, b_gap1, b_weight1, b_shiftX1, b_shiftY1, b_visible1, b_enabled1, b_on1, b_value1, b_parent1, b_effects1, b_targets1, b_kids1, b_kidCount1, b_left1, b_top1, b_width1, b_height1, b_order1, b_stack1, b_pixels1, b_events1, b_notes1) => wpY_give (fun u => match u with | (g_many2, g_waiting2, g_noteCount2, g_over2, g_pressed2, g_focus2, g_acted2, b_there2, b_kind2, b_wishX2, b_wishY2, b_wishW2, b_wishH2, b_colour2, b_layout2, b_gap2, b_weight2, b_shiftX2, b_shiftY2, b_visible2, b_enabled2, b_on2, b_value2, b_parent2, b_effects2, b_targets2, b_kids2, b_kidCount2, b_left2, b_top2, b_width2, b_height2, b_order2, b_stack2, b_pixels2, b_events2, b_notes2) => wY_carryOut_66 post (nI 1) x g_many2 g_waiting2 g_noteCount2 g_over2 g_pressed2 g_focus2 g_acted2 b_there2 b_kind2 b_wishX2 b_wishY2 b_wishW2 b_wishH2 b_colour2 b_layout2 b_gap2 b_weight2 b_shiftX2 b_shiftY2 b_visible2 b_enabled2 b_on2 b_value2 b_parent2 b_effects2 b_targets2 b_kids2 b_kidCount2 b_left2 b_top2 b_width2 b_height2 b_order2 b_stack2 b_pixels2 b_events2 b_notes2) (g_many1, g_waiting1, g_noteCount1, g_over1, g_pressed1, g_focus1, g_acted1, b_there1, b_kind1, b_wishX1, b_wishY1, b_wishW1, b_wishH1, b_colour1, b_layout1, b_gap1, b_weight1, b_shiftX1, b_shiftY1, b_visible1, b_enabled1, b_on1, b_value1, b_parent1, b_effects1, b_targets1, b_kids1, b_kidCount1, b_left1, b_top1, b_width1, b_height1, b_order1, b_stack1, b_pixels1, b_events1, b_notes1) g_over1) (mn, g_waiting, nc, ov, ov, f_focus, 0, a_there, a_kinds, (fun j => a_wishedPlaces (2 * j)), (fun j => a_wishedPlaces (2 * j + 1)), (fun j => a_wishedSizes (2 * j)), (fun j => a_wishedSizes (2 * j + 1)), a_colours, a_layouts, a_gaps, a_weights, (fun j => a_shifts (2 * j)), (fun j => a_shifts (2 * j + 1)), a_visible, a_enabled, a_on, a_values, a_parents, a_effects, a_targets, b_kids, b_kidCount, lf, tp, wd, hg, od, sk, a_pixels, b_events, ns) (48 + ov)))) w hw (fun _ => br_f (by decide) (py_note k)) (fun z => absurd z ea)
            (g_many := mn) (g_waiting := g_waiting) (g_acted := 0) (f_over := ov) (f_pressed := f_pressed) (f_focus := f_focus) (f_noteCount := nc) (a_kinds := a_kinds) (a_colours := a_colours) (a_on := a_on) (a_values := a_values) (a_effects := a_effects) (a_targets := a_targets) (a_notes := ns) (a_pixels := a_pixels) (b_kids := b_kids) (b_kidCount := b_kidCount) (b_left := lf) (b_top := tp) (b_width := wd) (b_height := hg) (b_order := od) (b_stack := sk) (b_events := b_events)
          rw [← e] at g
          exact g
  · -- RELEASE
    rcases hpr with ep | ⟨w, hw, ep⟩
    · refine ⟨0, L, f_stacked, ov, f_pressed, f_focus, nc, a_stack, a_values, a_visible, a_enabled, a_on, a_shifts, ns, b_kids, b_kidCount, hM1, fun f_treeSize a_tree a_seen a_able a_places a_sizes a_clipStarts a_clipEnds post hD h => ?_, fun g_many b_left b_top b_width b_height b_order b_stack post h => ?_⟩
      · refine br_f (by decide) (br_f (by decide) (br_f (by decide) (br_f (by decide) (br_t (by decide) (hx f_treeSize a_tree a_seen a_able a_places a_sizes a_clipStarts a_clipEnds _ hD ?_)))))
        rw [ep] at h
        exact br_t ep (px_act0 h)
      · exact br_f (by decide) (hy g_many b_left b_top b_width b_height b_order b_stack _ (fun mn od sk lf tp wd hg => br_f (by decide) (br_t (by decide) (br_t (n2.mpr ep) (br_f (by decide) (br_f (by decide) (h mn od sk lf tp wd hg)))))))
    · have hw12 := pd_12lt hB.2.1 hw
      have hM2 : pd_MM a_there a_parents L rk f_stacked a_stack b_kidCount b_kids a_wishedPlaces a_wishedSizes a_weights a_layouts a_targets a_shifts ov (-1) f_focus := ⟨hB, hS, hK, hV, hov, Or.inl rfl, hf⟩
      have vw : vp_in (nI w) 12 := vp_in_nI hw12 (by omega)
      have cw : (nI w).toNatClampNeg = w := pd_cl (by omega)
      subst ep
      by_cases eo : nI w = ov
      · by_cases ea : (G w).2.2.2.1 = 0
        · refine ⟨0, L, f_stacked, ov, (-1), f_focus, nc, a_stack, a_values, a_visible, a_enabled, a_on, a_shifts, ns, b_kids, b_kidCount, hM2, fun f_treeSize a_tree a_seen a_able a_places a_sizes a_clipStarts a_clipEnds post hD h => ?_, fun g_many b_left b_top b_width b_height b_order b_stack post h => ?_⟩
          · refine br_f (by decide) (br_f (by decide) (br_f (by decide) (br_f (by decide) (br_t (by decide) (hx f_treeSize a_tree a_seen a_able a_places a_sizes a_clipStarts a_clipEnds _ hD ?_)))))
            refine br_f (pd_ne1 (by omega)) (br_t eo ⟨vw, br_t ?_ (px_act0 h)⟩)
            rw [cw, (hD.2.2 w hw).2.2]; exact ea
          · exact br_f (by decide) (hy g_many b_left b_top b_width b_height b_order b_stack _ (fun mn od sk lf tp wd hg => br_f (by decide) (br_t (by decide) (br_f (nI_pos (by omega)) (br_t eo (py_able (G := G) hB hG w hw (fun z => absurd ea z) (fun _ => br_t rfl (br_f (by decide) (br_f (by decide) (h mn od sk lf tp wd hg))))))))))
        · obtain ⟨m', L', fs', fo', nc', st', vi', en', on', sh', ns', ki', kc', hM', hL', hax, hay⟩ := pd_act1 (f_stacked := f_stacked) (f_over := ov) (f_pressed := (-1)) (f_focus := f_focus) (f_waiting := f_waiting) (f_noteCount := nc) (a_there := a_there) (a_parents := a_parents) (a_kinds := a_kinds) (a_colours := a_colours) (a_weights := a_weights) (a_gaps := a_gaps) (a_layouts := a_layouts) (a_values := a_values) (a_effects := a_effects) (a_targets := a_targets) (a_visible := a_visible) (a_enabled := a_enabled) (a_on := a_on) (a_wishedPlaces := a_wishedPlaces) (a_wishedSizes := a_wishedSizes) (a_shifts := a_shifts) (a_stack := a_stack) (a_eventKinds := a_eventKinds) (a_eventXs := a_eventXs) (a_eventYs := a_eventYs) (a_notes := ns) (a_pixels := a_pixels) (g_waiting := g_waiting) (b_kids := b_kids) (b_kidCount := b_kidCount) (b_events := b_events) hw hM2
          refine ⟨m', L', fs', ov, (-1), fo', nc', st', a_values, vi', en', on', sh', ns', ki', kc', hM', fun f_treeSize a_tree a_seen a_able a_places a_sizes a_clipStarts a_clipEnds post hD h => ?_, fun g_many b_left b_top b_width b_height b_order b_stack post h => ?_⟩
          · refine br_f (by decide) (br_f (by decide) (br_f (by decide) (br_f (by decide) (br_t (by decide) (hx f_treeSize a_tree a_seen a_able a_places a_sizes a_clipStarts a_clipEnds _ hD ?_)))))
            refine br_f (pd_ne1 (by omega)) (br_t eo ⟨vw, br_f ?_ (hax f_treeSize a_tree a_seen a_able a_places a_sizes a_clipStarts a_clipEnds post h)⟩)
            rw [cw, (hD.2.2 w hw).2.2]; exact ea
          · exact br_f (by decide) (hy g_many b_left b_top b_width b_height b_order b_stack _ (fun mn od sk lf tp wd hg => br_f (by decide) (br_t (by decide) (br_f (nI_pos (by omega)) (br_t eo (py_able (G := G) hB hG w hw (fun _ => br_f (by decide) (hay mn lf tp wd hg od sk _ (br_f (by decide) (br_f (by decide) (h mn od sk lf tp wd hg))))) (fun z => absurd z ea)))))))
      · refine ⟨0, L, f_stacked, ov, (-1), f_focus, nc, a_stack, a_values, a_visible, a_enabled, a_on, a_shifts, ns, b_kids, b_kidCount, hM2, fun f_treeSize a_tree a_seen a_able a_places a_sizes a_clipStarts a_clipEnds post hD h => ?_, fun g_many b_left b_top b_width b_height b_order b_stack post h => ?_⟩
        · exact br_f (by decide) (br_f (by decide) (br_f (by decide) (br_f (by decide) (br_t (by decide) (hx f_treeSize a_tree a_seen a_able a_places a_sizes a_clipStarts a_clipEnds _ hD (br_f (pd_ne1 (by omega)) (br_f eo (px_act0 h))))))))
        · exact br_f (by decide) (hy g_many b_left b_top b_width b_height b_order b_stack _ (fun mn od sk lf tp wd hg => br_f (by decide) (br_t (by decide) (br_f (nI_pos (by omega)) (br_f eo (br_f (by decide) (br_f (by decide) (h mn od sk lf tp wd hg))))))))
  · -- KEY
    have ygo : ∀ (g_many : Int32) (b_left b_top b_width b_height b_order b_stack : Nat → Int32) (post : SY → Prop), wY_carryOut_113 post (nI 3) x g_many g_waiting f_noteCount f_over f_pressed f_focus 0 a_there a_kinds (fun j => a_wishedPlaces (2 * j)) (fun j => a_wishedPlaces (2 * j + 1)) (fun j => a_wishedSizes (2 * j)) (fun j => a_wishedSizes (2 * j + 1)) a_colours a_layouts a_gaps a_weights (fun j => a_shifts (2 * j)) (fun j => a_shifts (2 * j + 1)) a_visible a_enabled a_on a_values a_parents a_effects a_targets b_kids b_kidCount b_left b_top b_width b_height b_order b_stack a_pixels b_events a_notes → wpY_carryOut post (g_many, g_waiting, f_noteCount, f_over, f_pressed, f_focus, g_acted, a_there, a_kinds, (fun j => a_wishedPlaces (2 * j)), (fun j => a_wishedPlaces (2 * j + 1)), (fun j => a_wishedSizes (2 * j)), (fun j => a_wishedSizes (2 * j + 1)), a_colours, a_layouts, a_gaps, a_weights, (fun j => a_shifts (2 * j)), (fun j => a_shifts (2 * j + 1)), a_visible, a_enabled, a_on, a_values, a_parents, a_effects, a_targets, b_kids, b_kidCount, b_left, b_top, b_width, b_height, b_order, b_stack, a_pixels, b_events, a_notes) (nI 3) x y := fun g_many b_left b_top b_width b_height b_order b_stack post h => br_t (by decide) (br_f (by decide) (br_f (by decide) h))
    have quiet : (f_focus = -1 ∨ ∃ w, (w = 0 ∨ w ∈ L) ∧ f_focus = nI w ∧ ((G w).2.2.1 = 0 ∨ (G w).2.2.2.1 = 0 ∨ (¬ a_kinds w = 3 ∧ ¬ x = 0))) → ∃ (m' : Int32) (L' : List Nat) (fs ov pr fo nc : Int32) (st va vi en on sh ns ki kc : Nat → Int32),
        pd_MM a_there a_parents L' rk fs st kc ki a_wishedPlaces a_wishedSizes a_weights a_layouts a_targets sh ov pr fo ∧
        (∀ (f_treeSize : Int32) (a_tree a_seen a_able a_places a_sizes a_clipStarts a_clipEnds : Nat → Int32) (post : SX → Prop), pd_DG G a_parents L f_treeSize a_tree a_seen a_able a_places a_sizes a_clipStarts a_clipEnds → post (fs, f_treeSize, ov, pr, fo, f_waiting, nc, a_there, a_parents, a_kinds, a_colours, a_weights, a_gaps, a_layouts, va, a_effects, a_targets, vi, en, on, a_wishedPlaces, a_wishedSizes, sh, st, a_tree, a_seen, a_able, a_places, a_sizes, a_clipStarts, a_clipEnds, a_eventKinds, a_eventXs, a_eventYs, ns, a_pixels) → wpX_carryOut (fun r u => match u with | (f_stacked1, f_treeSize1, f_over1, f_pressed1, f_focus1, f_waiting1, f_noteCount1, a_there1, a_parents1, a_kinds1, a_colours1, a_weights1, a_gaps1, a_layouts1, a_values1, a_effects1, a_targets1, a_visible1, a_enabled1, a_on1, a_wishedPlaces1, a_wishedSizes1, a_shifts1, a_stack1, a_tree1, a_seen1, a_able1, a_places1, a_sizes1, a_clipStarts1, a_clipEnds1, a_eventKinds1, a_eventXs1, a_eventYs1, a_notes1, a_pixels1) => wpX_actInTurn post (f_stacked1, f_treeSize1, f_over1, f_pressed1, f_focus1, f_waiting1, f_noteCount1, a_there1, a_parents1, a_kinds1, a_colours1, a_weights1, a_gaps1, a_layouts1, a_values1, a_effects1, a_targets1, a_visible1, a_enabled1, a_on1, a_wishedPlaces1, a_wishedSizes1, a_shifts1, a_stack1, a_tree1, a_seen1, a_able1, a_places1, a_sizes1, a_clipStarts1, a_clipEnds1, a_eventKinds1, a_eventXs1, a_eventYs1, a_notes1, a_pixels1) r) (f_stacked, f_treeSize, f_over, f_pressed, f_focus, f_waiting, f_noteCount, a_there, a_parents, a_kinds, a_colours, a_weights, a_gaps, a_layouts, a_values, a_effects, a_targets, a_visible, a_enabled, a_on, a_wishedPlaces, a_wishedSizes, a_shifts, a_stack, a_tree, a_seen, a_able, a_places, a_sizes, a_clipStarts, a_clipEnds, a_eventKinds, a_eventXs, a_eventYs, a_notes, a_pixels) (nI 3) x y) ∧
        (∀ (g_many : Int32) (b_left b_top b_width b_height b_order b_stack : Nat → Int32) (post : SY → Prop), (∀ mn od sk lf tp wd hg, post (mn, g_waiting, nc, ov, pr, fo, m', a_there, a_kinds, (fun j => a_wishedPlaces (2 * j)), (fun j => a_wishedPlaces (2 * j + 1)), (fun j => a_wishedSizes (2 * j)), (fun j => a_wishedSizes (2 * j + 1)), a_colours, a_layouts, a_gaps, a_weights, (fun j => sh (2 * j)), (fun j => sh (2 * j + 1)), vi, en, on, va, a_parents, a_effects, a_targets, ki, kc, lf, tp, wd, hg, od, sk, a_pixels, b_events, ns)) → wpY_carryOut post (g_many, g_waiting, f_noteCount, f_over, f_pressed, f_focus, g_acted, a_there, a_kinds, (fun j => a_wishedPlaces (2 * j)), (fun j => a_wishedPlaces (2 * j + 1)), (fun j => a_wishedSizes (2 * j)), (fun j => a_wishedSizes (2 * j + 1)), a_colours, a_layouts, a_gaps, a_weights, (fun j => a_shifts (2 * j)), (fun j => a_shifts (2 * j + 1)), a_visible, a_enabled, a_on, a_values, a_parents, a_effects, a_targets, b_kids, b_kidCount, b_left, b_top, b_width, b_height, b_order, b_stack, a_pixels, b_events, a_notes) (nI 3) x y) := by
      intro hq
      refine ⟨0, L, f_stacked, f_over, f_pressed, f_focus, f_noteCount, a_stack, a_values, a_visible, a_enabled, a_on, a_shifts, a_notes, b_kids, b_kidCount, hM0, fun f_treeSize a_tree a_seen a_able a_places a_sizes a_clipStarts a_clipEnds post hD h => ?_, fun g_many b_left b_top b_width b_height b_order b_stack post h => ?_⟩
      · refine br_f (by decide) (br_f (by decide) (br_f (by decide) (br_f (by decide) (br_f (by decide) (br_t (by decide) ?_)))))
        rcases hq with e | ⟨w, hw, e, hq⟩
        · exact br_t e (px_act0 h)
        · have hw12 := pd_12lt hB.2.1 hw
          have vw : vp_in (nI w) 12 := vp_in_nI hw12 (by omega)
          have cw : (nI w).toNatClampNeg = w := pd_cl (by omega)
          obtain ⟨_, es, ea⟩ := hD.2.2 w hw
          subst e
          refine br_f (pd_ne1 (by omega)) ⟨vw, ?_⟩
          rw [cw, es, ea]
          rcases hq with z | z | ⟨z1, z2⟩
          · exact br_t z (px_act0 h)
          · exact br_c (fun _ => px_act0 h) (fun _ => ⟨vw, br_t z (px_act0 h)⟩)
          · exact br_c (fun _ => px_act0 h) (fun _ => ⟨vw, br_c (fun _ => px_act0 h) (fun _ => ⟨vw, br_f z1 (br_f z2 (px_act0 h))⟩)⟩)
      · refine ygo g_many b_left b_top b_width b_height b_order b_stack post (br_t (by decide) ?_)
        have fin : wY_carryOut_152 post (nI 3) g_many g_waiting f_noteCount f_over f_pressed f_focus 0 a_there a_kinds (fun j => a_wishedPlaces (2 * j)) (fun j => a_wishedPlaces (2 * j + 1)) (fun j => a_wishedSizes (2 * j)) (fun j => a_wishedSizes (2 * j + 1)) a_colours a_layouts a_gaps a_weights (fun j => a_shifts (2 * j)) (fun j => a_shifts (2 * j + 1)) a_visible a_enabled a_on a_values a_parents a_effects a_targets b_kids b_kidCount b_left b_top b_width b_height b_order b_stack a_pixels b_events a_notes := br_f (by decide) (h g_many b_order b_stack b_left b_top b_width b_height)
        rcases hq with e | ⟨w, hw, e, hq⟩
        · exact br_t (n3.mpr e) fin
        · have hw12 := pd_12lt hB.2.1 hw
          have vw : vp_in (nI w) 12 := vp_in_nI hw12 (by omega)
          have cw : (nI w).toNatClampNeg = w := pd_cl (by omega)
          subst e
          refine br_f (nI_pos (by omega)) (py_seen (G := G) hB hG w hw (fun k2 => br_f (by decide) (py_able (G := G) hB hG w hw (fun k3 => br_f (by decide) ⟨vw, ?_⟩) (fun _ => br_t rfl fin))) (fun _ => br_t rfl fin))
          rcases hq with z | z | ⟨z1, z2⟩
          · exact absurd z k2
          · exact absurd z k3
          · rw [cw]; exact br_f z1 (br_f z2 fin)
    rcases hf with e | ⟨w, hw, e⟩
    · exact quiet (Or.inl e)
    · by_cases k2 : (G w).2.2.1 = 0
      · exact quiet (Or.inr ⟨w, hw, e, Or.inl k2⟩)
      · by_cases k3 : (G w).2.2.2.1 = 0
        · exact quiet (Or.inr ⟨w, hw, e, Or.inr (Or.inl k3)⟩)
        · have hw12 := pd_12lt hB.2.1 hw
          have vw : vp_in (nI w) 12 := vp_in_nI hw12 (by omega)
          have cw : (nI w).toNatClampNeg = w := pd_cl (by omega)
          by_cases k1 : a_kinds w = 3
          · subst e
            refine ⟨0, L, f_stacked, f_over, f_pressed, nI w, f_noteCount + 1, a_stack, upd a_values w (10 * a_values w + x - (10 * a_values w + x) / 1000 * 1000), a_visible, a_enabled, a_on, a_shifts, upd a_notes (f_noteCount &&& 15).toNatClampNeg (64 + nI w), b_kids, b_kidCount, hM0, fun f_treeSize a_tree a_seen a_able a_places a_sizes a_clipStarts a_clipEnds post hD h => ?_, fun g_many b_left b_top b_width b_height b_order b_stack post h => ?_⟩
            · obtain ⟨_, es, ea⟩ := hD.2.2 w hw
              refine br_f (by decide) (br_f (by decide) (br_f (by decide) (br_f (by decide) (br_f (by decide) (br_t (by decide) (br_f (pd_ne1 (by omega)) ⟨vw, ?_⟩))))))
              rw [cw, es, ea]
              exact br_f k2 ⟨vw, br_f k3 ⟨vw, br_t k1 ⟨vw, by decide, vw, nm_e (px_note (px_act0 h))⟩⟩⟩
            · refine ygo g_many b_left b_top b_width b_height b_order b_stack post (br_t (by decide) (br_f (nI_pos (by omega)) (py_seen (G := G) hB hG w hw (fun _ => br_f (by decide) (py_able (G := G) hB hG w hw (fun _ => br_f (by decide) ⟨vw, ?_⟩) (fun z => absurd z k3))) (fun z => absurd z k2))))
              rw [cw]
              exact br_t k1 ⟨vw, by decide, vw, nm_e (py_note (br_f (by decide) (h g_many b_order b_stack b_left b_top b_width b_height)))⟩
          · by_cases kx : x = 0
            · obtain ⟨m', L', fs', fo', nc', st', vi', en', on', sh', ns', ki', kc', hM', hL', hax, hay⟩ := pd_act1 (f_stacked := f_stacked) (f_over := f_over) (f_pressed := f_pressed) (f_focus := f_focus) (f_waiting := f_waiting) (f_noteCount := f_noteCount) (a_there := a_there) (a_parents := a_parents) (a_kinds := a_kinds) (a_colours := a_colours) (a_weights := a_weights) (a_gaps := a_gaps) (a_layouts := a_layouts) (a_values := a_values) (a_effects := a_effects) (a_targets := a_targets) (a_visible := a_visible) (a_enabled := a_enabled) (a_on := a_on) (a_wishedPlaces := a_wishedPlaces) (a_wishedSizes := a_wishedSizes) (a_shifts := a_shifts) (a_stack := a_stack) (a_eventKinds := a_eventKinds) (a_eventXs := a_eventXs) (a_eventYs := a_eventYs) (a_notes := a_notes) (a_pixels := a_pixels) (g_waiting := g_waiting) (b_kids := b_kids) (b_kidCount := b_kidCount) (b_events := b_events) hw hM0
              refine ⟨m', L', fs', f_over, f_pressed, fo', nc', st', a_values, vi', en', on', sh', ns', ki', kc', hM', fun f_treeSize a_tree a_seen a_able a_places a_sizes a_clipStarts a_clipEnds post hD h => ?_, fun g_many b_left b_top b_width b_height b_order b_stack post h => ?_⟩
              · obtain ⟨_, es, ea⟩ := hD.2.2 w hw
                have k := hax f_treeSize a_tree a_seen a_able a_places a_sizes a_clipStarts a_clipEnds post h
                subst e
                refine br_f (by decide) (br_f (by decide) (br_f (by decide) (br_f (by decide) (br_f (by decide) (br_t (by decide) (br_f (pd_ne1 (by omega)) ⟨vw, ?_⟩))))))
                rw [cw, es, ea]
                exact br_f k2 ⟨vw, br_f k3 ⟨vw, br_f k1 (br_t kx k)⟩⟩
              · have k := hay g_many b_left b_top b_width b_height b_order b_stack (fun u => match u with | (g_many1, g_waiting1, g_noteCount1, g_over1, g_pressed1, g_focus1, g_acted1, b_there1, b_kind1, b_wishX1, b_wishY1, b_wishW1, b_wishH1, b_colour1, b_layout1, b_gap1, b_weight1, b_shiftX1, b_shiftY1, b_visible1, b_enabled1, b_on1, b_value1, b_parent1, b_effects1, b_targets1, b_kids1, b_kidCount1, b_left1, b_top1, b_width1, b_height1, b_order1, b_stack1, b_pixels1, b_events1, b_notes1) => wY_carryOut_152 post (nI 3) g_many1 g_waiting1 g_noteCount1 g_over1 g_pressed1 g_focus1 g_acted1 b_there1 b_kind1 b_wishX1 b_wishY1 b_wishW1 b_wishH1 b_colour1 b_layout1 b_gap1 b_weight1 b_shiftX1 b_shiftY1 b_visible1 b_enabled1 b_on1 b_value1 b_parent1 b_effects1 b_targets1 b_kids1 b_kidCount1 b_left1 b_top1 b_width1 b_height1 b_order1 b_stack1 b_pixels1 b_events1 b_notes1) (br_f (by decide) (h g_many b_order b_stack b_left b_top b_width b_height))
                subst e
                refine ygo g_many b_left b_top b_width b_height b_order b_stack post (br_t (by decide) (br_f (nI_pos (by omega)) (py_seen (G := G) hB hG w hw (fun _ => br_f (by decide) (py_able (G := G) hB hG w hw (fun _ => br_f (by decide) ⟨vw, ?_⟩) (fun z => absurd z k3))) (fun z => absurd z k2))))
                rw [cw]
                exact br_f k1 (br_t kx k)
            · exact quiet (Or.inr ⟨w, hw, e, Or.inr (Or.inr ⟨k1, kx⟩)⟩)
  · -- TAB
    obtain ⟨fo, nc2, ns2, hfo, htx, hty⟩ := pd_tab (f_stacked := f_stacked) (f_over := f_over) (f_pressed := f_pressed) (f_focus := f_focus) (f_waiting := f_waiting) (f_noteCount := f_noteCount) (a_there := a_there) (a_parents := a_parents) (a_kinds := a_kinds) (a_colours := a_colours) (a_weights := a_weights) (a_gaps := a_gaps) (a_layouts := a_layouts) (a_values := a_values) (a_effects := a_effects) (a_targets := a_targets) (a_visible := a_visible) (a_enabled := a_enabled) (a_on := a_on) (a_wishedPlaces := a_wishedPlaces) (a_wishedSizes := a_wishedSizes) (a_shifts := a_shifts) (a_stack := a_stack) (a_eventKinds := a_eventKinds) (a_eventXs := a_eventXs) (a_eventYs := a_eventYs) (a_notes := a_notes) (a_pixels := a_pixels) (g_waiting := g_waiting) (g_acted := 0) (b_kids := b_kids) (b_kidCount := b_kidCount) (b_events := b_events) hM0 hG
    refine ⟨0, L, f_stacked, f_over, f_pressed, fo, nc2, a_stack, a_values, a_visible, a_enabled, a_on, a_shifts, ns2, b_kids, b_kidCount, ⟨hB, hS, hK, hV, ho, hpr, hfo⟩, fun f_treeSize a_tree a_seen a_able a_places a_sizes a_clipStarts a_clipEnds post hD h => ?_, fun g_many b_left b_top b_width b_height b_order b_stack post h => ?_⟩
    · exact br_f (by decide) (br_f (by decide) (br_f (by decide) (br_f (by decide) (br_f (by decide) (br_f (by decide) (br_t (by decide) (htx f_treeSize a_tree a_seen a_able a_places a_sizes a_clipStarts a_clipEnds _ hD (px_act0 h))))))))
    · exact br_t (by decide) (br_f (by decide) (br_f (by decide) (br_f (by decide) (br_t (by decide) (hty g_many b_left b_top b_width b_height b_order b_stack _ h)))))
end PEA
end
section
section PEB
variable {f_stacked f_treeSize f_over f_pressed f_focus f_waiting f_noteCount : Int32} {a_there a_parents a_kinds a_colours a_weights a_gaps a_layouts a_values a_effects a_targets a_visible a_enabled a_on a_wishedPlaces a_wishedSizes a_shifts a_stack a_tree a_seen a_able a_places a_sizes a_clipStarts a_clipEnds a_eventKinds a_eventXs a_eventYs a_notes a_pixels : Nat → Int32}
variable {g_many g_waiting g_acted : Int32} {b_kids b_kidCount b_left b_top b_width b_height b_order b_stack b_events : Nat → Int32}
theorem px_settleG {L : List Nat} {rk : Nat → Nat} {G : Nat → pd_V} (H : pd_BI a_there a_parents L rk) (hst : pd_ST f_stacked a_stack L) (hV : pd_VA a_wishedPlaces a_wishedSizes a_weights a_layouts a_targets a_shifts) (hG : pd_LE a_parents a_wishedPlaces a_wishedSizes a_shifts a_visible a_enabled a_layouts a_gaps a_weights L G) {post : SX → Prop}
    (h : ∀ tn tr se ab pl sz cs ce, pd_DG G a_parents L tn tr se ab pl sz cs ce →
      post (f_stacked, tn, f_over, f_pressed, f_focus, f_waiting, f_noteCount, a_there, a_parents, a_kinds, a_colours, a_weights, a_gaps, a_layouts, a_values, a_effects, a_targets, a_visible, a_enabled, a_on, a_wishedPlaces, a_wishedSizes, a_shifts, a_stack, tr, se, ab, pl, sz, cs, ce, a_eventKinds, a_eventXs, a_eventYs, a_notes, a_pixels)) : wpX_settle post (f_stacked, f_treeSize, f_over, f_pressed, f_focus, f_waiting, f_noteCount, a_there, a_parents, a_kinds, a_colours, a_weights, a_gaps, a_layouts, a_values, a_effects, a_targets, a_visible, a_enabled, a_on, a_wishedPlaces, a_wishedSizes, a_shifts, a_stack, a_tree, a_seen, a_able, a_places, a_sizes, a_clipStarts, a_clipEnds, a_eventKinds, a_eventXs, a_eventYs, a_notes, a_pixels) := by
  have hO := pd_ordW H
  have hl := pd_ordL H
  unfold wpX_settle
  refine px_order H hst (fun tr htr => ⟨3, ?_⟩)
  show wX_settle_6 post f_stacked (nI (pd_ord a_parents L).length) f_over f_pressed f_focus f_waiting f_noteCount 3 (nI 0) a_there a_parents a_kinds a_colours a_weights a_gaps a_layouts a_values a_effects a_targets a_visible a_enabled a_on a_wishedPlaces a_wishedSizes a_shifts a_stack tr a_seen a_able a_places a_sizes a_clipStarts a_clipEnds a_eventKinds a_eventXs a_eventYs a_notes a_pixels
  rw [wX_settle_6]
  refine br_f (by decide) ⟨vp_in_nI (by omega) (by omega), vp_in_nI (by omega) (by omega), nm_r (e' := upd a_places 0 (a_wishedPlaces 0)) (by rw [pd_cl (by omega)]) ⟨vp_in_nI (by omega) (by omega), vp_in_nI (by omega) (by omega), nm_r (e' := upd a_sizes 0 (a_wishedSizes 0)) (by rw [pd_cl (by omega)]) (nm_r (nI_1 0) ?_)⟩⟩
  rw [wX_settle_6]
  refine br_f (by decide) ⟨vp_in_nI (by omega) (by omega), vp_in_nI (by omega) (by omega), nm_r (e' := upd (upd a_places 0 (a_wishedPlaces 0)) 1 (a_wishedPlaces 1)) (by rw [pd_cl (by omega)]) ⟨vp_in_nI (by omega) (by omega), vp_in_nI (by omega) (by omega), nm_r (e' := upd (upd a_sizes 0 (a_wishedSizes 0)) 1 (a_wishedSizes 1)) (by rw [pd_cl (by omega)]) (nm_r (nI_1 1) ?_)⟩⟩
  rw [wX_settle_6]
  refine br_t (by decide) ⟨(pd_ord a_parents L).length + 1, ?_⟩
  refine px_set43 (G := G) H hst hl hG hV.2.2.1 (pd_ord a_parents L) [] 0 _ a_seen a_able _ _ a_clipStarts a_clipEnds htr (by omega) (by omega) hO.2 (fun w hw => (pd_ordM H w).mp hw) (fun w hw => by cases hw) (fun w hw => by cases hw) (fun a ha => ?_) (fun c p _ hp => by cases hp) (fun se ab pl sz cs ce k1 k2 k3 => ?_)
  · rw [hG.1]
    have : a = 0 ∨ a = 1 := by omega
    rcases this with rfl | rfl
    · show upd (upd a_places 0 (a_wishedPlaces 0)) 1 (a_wishedPlaces 1) 0 = a_wishedPlaces 0 ∧ upd (upd a_sizes 0 (a_wishedSizes 0)) 1 (a_wishedSizes 1) 0 = a_wishedSizes 0
      rw [pd_un (by omega), pd_us, pd_un (by omega), pd_us]; exact ⟨rfl, rfl⟩
    · show upd (upd a_places 0 (a_wishedPlaces 0)) 1 (a_wishedPlaces 1) 1 = a_wishedPlaces 1 ∧ upd (upd a_sizes 0 (a_wishedSizes 0)) 1 (a_wishedSizes 1) 1 = a_wishedSizes 1
      rw [pd_us, pd_us]; exact ⟨rfl, rfl⟩
  · refine h _ tr se ab pl sz cs ce ⟨rfl, htr, fun w hw => pd_DApc ?_ (k1 w (Or.inr ((pd_ordM H w).mpr hw)))⟩
    cases hw with
    | inl e => subst e; exact k2
    | inr e =>
      obtain ⟨p, hp, ep, _⟩ := H.2.2.2.2 w e
      exact k3 w p e (Or.inr ((pd_ordM H p).mpr hp)) ep
theorem px_drop {post : SX → Prop} {c q : Nat} (hc : c ≤ q) (hq : q ≤ 16)
    (h : post (f_stacked, f_treeSize, f_over, f_pressed, f_focus, nI (q - c), f_noteCount, a_there, a_parents, a_kinds, a_colours, a_weights, a_gaps, a_layouts, a_values, a_effects, a_targets, a_visible, a_enabled, a_on, a_wishedPlaces, a_wishedSizes, a_shifts, a_stack, a_tree, a_seen, a_able, a_places, a_sizes, a_clipStarts, a_clipEnds, pd_S a_eventKinds c q, pd_S a_eventXs c q, pd_S a_eventYs c q, a_notes, a_pixels)) : wpX_dropEvents post (f_stacked, f_treeSize, f_over, f_pressed, f_focus, nI q, f_noteCount, a_there, a_parents, a_kinds, a_colours, a_weights, a_gaps, a_layouts, a_values, a_effects, a_targets, a_visible, a_enabled, a_on, a_wishedPlaces, a_wishedSizes, a_shifts, a_stack, a_tree, a_seen, a_able, a_places, a_sizes, a_clipStarts, a_clipEnds, a_eventKinds, a_eventXs, a_eventYs, a_notes, a_pixels) (nI c) := by
  have go : ∀ (d i : Nat), i + d = q → c ≤ i → wX_dropEvents_2 post (nI c) (d + 1) (nI i) f_stacked f_treeSize f_over f_pressed f_focus (nI q) f_noteCount a_there a_parents a_kinds a_colours a_weights a_gaps a_layouts a_values a_effects a_targets a_visible a_enabled a_on a_wishedPlaces a_wishedSizes a_shifts a_stack a_tree a_seen a_able a_places a_sizes a_clipStarts a_clipEnds (pd_S a_eventKinds c i) (pd_S a_eventXs c i) (pd_S a_eventYs c i) a_notes a_pixels := by
    intro d
    induction d with
    | zero =>
      intro i hi _
      have e : i = q := hi
      subst e
      rw [wX_dropEvents_2]
      exact br_t (Int32.le_refl _) (nm_r (pd_sub hc) h)
    | succ d ih =>
      intro i hi hci
      have vi : vp_in (nI i) 16 := vp_in_nI (by omega) (by omega)
      rw [wX_dropEvents_2]
      dsimp only
      rw [pd_cl (n := i) (by omega), pd_Sg, pd_Sg, pd_Sg, pd_sub hci]
      refine br_f (nI_ge (by omega) (by omega)) ⟨vi, vi, vi, px_sev (by omega) (nm_r (nI_1 i) ?_)⟩
      rw [pd_S1 _ hci, pd_S1 _ hci, pd_S1 _ hci]
      exact ih (i + 1) (by omega) (by omega)
  have k := go (q - c) c (by omega) (Nat.le_refl _)
  rw [pd_S0, pd_S0, pd_S0] at k
  exact ⟨_, k⟩
theorem py_drop78 {post : Int32 → SY → Prop} {c q : Nat} (hc : c ≤ q) (hq : q ≤ 16)
    (h : wpY_draw (fun u => match u with | (g_many1, g_waiting1, g_noteCount1, g_over1, g_pressed1, g_focus1, g_acted1, b_there1, b_kind1, b_wishX1, b_wishY1, b_wishW1, b_wishH1, b_colour1, b_layout1, b_gap1, b_weight1, b_shiftX1, b_shiftY1, b_visible1, b_enabled1, b_on1, b_value1, b_parent1, b_effects1, b_targets1, b_kids1, b_kidCount1, b_left1, b_top1, b_width1, b_height1, b_order1, b_stack1, b_pixels1, b_events1, b_notes1) => post (nI c) (g_many1, g_waiting1, g_noteCount1, g_over1, g_pressed1, g_focus1, g_acted1, b_there1, b_kind1, b_wishX1, b_wishY1, b_wishW1, b_wishH1, b_colour1, b_layout1, b_gap1, b_weight1, b_shiftX1, b_shiftY1, b_visible1, b_enabled1, b_on1, b_value1, b_parent1, b_effects1, b_targets1, b_kids1, b_kidCount1, b_left1, b_top1, b_width1, b_height1, b_order1, b_stack1, b_pixels1, b_events1, b_notes1)) (g_many, nI (q - c), f_noteCount, f_over, f_pressed, f_focus, g_acted, a_there, a_kinds, (fun j => a_wishedPlaces (2 * j)), (fun j => a_wishedPlaces (2 * j + 1)), (fun j => a_wishedSizes (2 * j)), (fun j => a_wishedSizes (2 * j + 1)), a_colours, a_layouts, a_gaps, a_weights, (fun j => a_shifts (2 * j)), (fun j => a_shifts (2 * j + 1)), a_visible, a_enabled, a_on, a_values, a_parents, a_effects, a_targets, b_kids, b_kidCount, b_left, b_top, b_width, b_height, b_order, b_stack, a_pixels, pd_S b_events (3 * c) (3 * q), a_notes)) : ∃ n, wY_pump_78 post (nI c) g_many (nI q) f_noteCount f_over f_pressed f_focus g_acted n (nI (3 * c)) a_there a_kinds (fun j => a_wishedPlaces (2 * j)) (fun j => a_wishedPlaces (2 * j + 1)) (fun j => a_wishedSizes (2 * j)) (fun j => a_wishedSizes (2 * j + 1)) a_colours a_layouts a_gaps a_weights (fun j => a_shifts (2 * j)) (fun j => a_shifts (2 * j + 1)) a_visible a_enabled a_on a_values a_parents a_effects a_targets b_kids b_kidCount b_left b_top b_width b_height b_order b_stack a_pixels b_events a_notes := by
  have e3c : 3 * nI c = nI (3 * c) := pd_3 c
  have e3q : 3 * nI q = nI (3 * q) := pd_3 q
  have go : ∀ (d i : Nat), i + d = 3 * q → 3 * c ≤ i → wY_pump_78 post (nI c) g_many (nI q) f_noteCount f_over f_pressed f_focus g_acted (d + 1) (nI i) a_there a_kinds (fun j => a_wishedPlaces (2 * j)) (fun j => a_wishedPlaces (2 * j + 1)) (fun j => a_wishedSizes (2 * j)) (fun j => a_wishedSizes (2 * j + 1)) a_colours a_layouts a_gaps a_weights (fun j => a_shifts (2 * j)) (fun j => a_shifts (2 * j + 1)) a_visible a_enabled a_on a_values a_parents a_effects a_targets b_kids b_kidCount b_left b_top b_width b_height b_order b_stack a_pixels (pd_S b_events (3 * c) i) a_notes := by
    intro d
    induction d with
    | zero =>
      intro i hi _
      have e : i = 3 * q := hi
      subst e
      rw [wY_pump_78]
      exact br_t (by rw [e3q]; exact Int32.le_refl _) (nm_r (pd_sub hc) h)
    | succ d ih =>
      intro i hi hci
      rw [wY_pump_78]
      dsimp only
      rw [e3c, e3q, pd_cl (n := i) (by omega), pd_Sg, pd_sub hci, pd_cl (by omega), pd_S1 _ hci]
      exact br_f (nI_ge (by omega) (by omega)) ⟨vp_in_nI (by omega) (by omega), vp_in_nI (by omega) (by omega), nm_e (nm_r (nI_1 i) (ih (i + 1) (by omega) (by omega)))⟩
  have k := go (3 * q - 3 * c) (3 * c) (by omega) (Nat.le_refl _)
  rw [pd_S0] at k
  exact ⟨_, k⟩
theorem pd_QUd {c q : Nat} {ek ex ey ev : Nat → Int32} (hc : c ≤ q) (hq : q ≤ 16) (h : ∀ i, i < q → (∃ k, k ≤ 4 ∧ ek i = nI k) ∧ ev (3 * i) = ek i ∧ ev (3 * i + 1) = ex i ∧ ev (3 * i + 2) = ey i) :
    pd_QU (nI (q - c)) (nI (q - c)) (pd_S ek c q) (pd_S ex c q) (pd_S ey c q) (pd_S ev (3 * c) (3 * q)) := by
  refine ⟨q - c, by omega, rfl, rfl, fun i hi => ?_⟩
  have e1 : ∀ f : Nat → Int32, pd_S f c q i = f (i + c) := fun f => if_pos (by omega)
  have e2 : ∀ r, r < 3 → pd_S ev (3 * c) (3 * q) (3 * i + r) = ev (3 * (i + c) + r) := fun r hr => by
    unfold pd_S
    rw [if_pos (by omega), show 3 * i + r + 3 * c = 3 * (i + c) + r by omega]
  have h0 := e2 0 (by omega)
  rw [Nat.add_zero, Nat.add_zero] at h0
  rw [e1, e1, e1, h0, e2 1 (by omega), e2 2 (by omega)]
  exact h (i + c) (by omega)
theorem pd_pumpL {rk : Nat → Nat} {c q : Nat} (hc : c ≤ q) (hq : q ≤ 16) (hE : ∀ i, i < q → (∃ k, k ≤ 4 ∧ a_eventKinds i = nI k) ∧ b_events (3 * i) = a_eventKinds i ∧ b_events (3 * i + 1) = a_eventXs i ∧ b_events (3 * i + 2) = a_eventYs i) :
    ∀ (d i : Nat) (m : Int32) (L : List Nat) (G : Nat → pd_V) (fs ov pr fo nc : Int32) (st va vi en on sh ns ki kc : Nat → Int32), i + d = c →
    pd_MM a_there a_parents L rk fs st kc ki a_wishedPlaces a_wishedSizes a_weights a_layouts a_targets sh ov pr fo → pd_LE a_parents a_wishedPlaces a_wishedSizes sh vi en a_layouts a_gaps a_weights L G →
    ∃ (m' : Int32) (L' : List Nat) (G' : Nat → pd_V) (fs' ov' pr' fo' nc' : Int32) (st' va' vi' en' on' sh' ns' ki' kc' : Nat → Int32),
    pd_MM a_there a_parents L' rk fs' st' kc' ki' a_wishedPlaces a_wishedSizes a_weights a_layouts a_targets sh' ov' pr' fo' ∧ pd_LE a_parents a_wishedPlaces a_wishedSizes sh' vi' en' a_layouts a_gaps a_weights L' G' ∧
    (∀ (f_treeSize : Int32) (a_tree a_seen a_able a_places a_sizes a_clipStarts a_clipEnds : Nat → Int32) (post : Int32 → SX → Prop), pd_DG G a_parents L f_treeSize a_tree a_seen a_able a_places a_sizes a_clipStarts a_clipEnds →
      (∀ tn tr se ab pl sz cs ce, pd_DG G' a_parents L' tn tr se ab pl sz cs ce → wpX_dropEvents (fun u => match u with | (f_stacked1, f_treeSize1, f_over1, f_pressed1, f_focus1, f_waiting1, f_noteCount1, a_there1, a_parents1, a_kinds1, a_colours1, a_weights1, a_gaps1, a_layouts1, a_values1, a_effects1, a_targets1, a_visible1, a_enabled1, a_on1, a_wishedPlaces1, a_wishedSizes1, a_shifts1, a_stack1, a_tree1, a_seen1, a_able1, a_places1, a_sizes1, a_clipStarts1, a_clipEnds1, a_eventKinds1, a_eventXs1, a_eventYs1, a_notes1, a_pixels1) => wpX_draw (fun u => match u with | (f_stacked2, f_treeSize2, f_over2, f_pressed2, f_focus2, f_waiting2, f_noteCount2, a_there2, a_parents2, a_kinds2, a_colours2, a_weights2, a_gaps2, a_layouts2, a_values2, a_effects2, a_targets2, a_visible2, a_enabled2, a_on2, a_wishedPlaces2, a_wishedSizes2, a_shifts2, a_stack2, a_tree2, a_seen2, a_able2, a_places2, a_sizes2, a_clipStarts2, a_clipEnds2, a_eventKinds2, a_eventXs2, a_eventYs2, a_notes2, a_pixels2) => post (nI c) (f_stacked2, f_treeSize2, f_over2, f_pressed2, f_focus2, f_waiting2, f_noteCount2, a_there2, a_parents2, a_kinds2, a_colours2, a_weights2, a_gaps2, a_layouts2, a_values2, a_effects2, a_targets2, a_visible2, a_enabled2, a_on2, a_wishedPlaces2, a_wishedSizes2, a_shifts2, a_stack2, a_tree2, a_seen2, a_able2, a_places2, a_sizes2, a_clipStarts2, a_clipEnds2, a_eventKinds2, a_eventXs2, a_eventYs2, a_notes2, a_pixels2)) (f_stacked1, f_treeSize1, f_over1, f_pressed1, f_focus1, f_waiting1, f_noteCount1, a_there1, a_parents1, a_kinds1, a_colours1, a_weights1, a_gaps1, a_layouts1, a_values1, a_effects1, a_targets1, a_visible1, a_enabled1, a_on1, a_wishedPlaces1, a_wishedSizes1, a_shifts1, a_stack1, a_tree1, a_seen1, a_able1, a_places1, a_sizes1, a_clipStarts1, a_clipEnds1, a_eventKinds1, a_eventXs1, a_eventYs1, a_notes1, a_pixels1))
        (fs', tn, ov', pr', fo', nI q, nc', a_there, a_parents, a_kinds, a_colours, a_weights, a_gaps, a_layouts, va', a_effects, a_targets, vi', en', on', a_wishedPlaces, a_wishedSizes, sh', st', tr, se, ab, pl, sz, cs, ce, a_eventKinds, a_eventXs, a_eventYs, ns', a_pixels) (nI c)) →
      wX_pump_31 post (nI c) (d + 1) (nI i) fs f_treeSize ov pr fo (nI q) nc a_there a_parents a_kinds a_colours a_weights a_gaps a_layouts va a_effects a_targets vi en on a_wishedPlaces a_wishedSizes sh st a_tree a_seen a_able a_places a_sizes a_clipStarts a_clipEnds a_eventKinds a_eventXs a_eventYs ns a_pixels) ∧
    (∀ (g_many : Int32) (b_left b_top b_width b_height b_order b_stack : Nat → Int32) (post : Int32 → SY → Prop),
      (∀ mn od sk lf tp wd hg, ∃ n78, wY_pump_78 post (nI c) mn (nI q) nc' ov' pr' fo' m' n78 (nI (3 * c)) a_there a_kinds (fun j => a_wishedPlaces (2 * j)) (fun j => a_wishedPlaces (2 * j + 1)) (fun j => a_wishedSizes (2 * j)) (fun j => a_wishedSizes (2 * j + 1)) a_colours a_layouts a_gaps a_weights (fun j => sh' (2 * j)) (fun j => sh' (2 * j + 1)) vi' en' on' va' a_parents a_effects a_targets ki' kc' lf tp wd hg od sk a_pixels b_events ns') →
      wY_pump_31 post (nI c) (d + 1) (nI i) g_many (nI q) nc ov pr fo m a_there a_kinds (fun j => a_wishedPlaces (2 * j)) (fun j => a_wishedPlaces (2 * j + 1)) (fun j => a_wishedSizes (2 * j)) (fun j => a_wishedSizes (2 * j + 1)) a_colours a_layouts a_gaps a_weights (fun j => sh (2 * j)) (fun j => sh (2 * j + 1)) vi en on va a_parents a_effects a_targets ki kc b_left b_top b_width b_height b_order b_stack a_pixels b_events ns) := by
  intro d
  induction d with
  | zero =>
    intro i m L G fs ov pr fo nc st va vi en on sh ns ki kc hi hM hG
    have e : i = c := hi
    subst e
    refine ⟨m, L, G, fs, ov, pr, fo, nc, st, va, vi, en, on, sh, ns, ki, kc, hM, hG, fun f_treeSize a_tree a_seen a_able a_places a_sizes a_clipStarts a_clipEnds post hD h => ?_, fun g_many b_left b_top b_width b_height b_order b_stack post h => ?_⟩
    · rw [wX_pump_31]
      exact br_t (Int32.le_refl _) (h _ _ _ _ _ _ _ _ hD)
    · rw [wY_pump_31]
      exact br_t (Int32.le_refl _) (nm_r (pd_3 i) (h _ _ _ _ _ _ _))
  | succ d ih =>
    intro i m L G fs ov pr fo nc st va vi en on sh ns ki kc hi hM hG
    obtain ⟨⟨k, hk, ek⟩, b0, b1, b2⟩ := hE i (by omega)
    obtain ⟨m1, L1, fs1, ov1, pr1, fo1, nc1, st1, va1, vi1, en1, on1, sh1, ns1, ki1, kc1, hM1, hx, hy⟩ := pd_evt (f_stacked := fs) (f_over := ov) (f_pressed := pr) (f_focus := fo) (f_waiting := (nI q)) (f_noteCount := nc) (a_there := a_there) (a_parents := a_parents) (a_kinds := a_kinds) (a_colours := a_colours) (a_weights := a_weights) (a_gaps := a_gaps) (a_layouts := a_layouts) (a_values := va) (a_effects := a_effects) (a_targets := a_targets) (a_visible := vi) (a_enabled := en) (a_on := on) (a_wishedPlaces := a_wishedPlaces) (a_wishedSizes := a_wishedSizes) (a_shifts := sh) (a_stack := st) (a_eventKinds := a_eventKinds) (a_eventXs := a_eventXs) (a_eventYs := a_eventYs) (a_notes := ns) (a_pixels := a_pixels) (g_waiting := (nI q)) (g_acted := m) (b_kids := ki) (b_kidCount := kc) (b_events := b_events) hk (a_eventXs i) (a_eventYs i) hM hG
    obtain ⟨G1, hG1⟩ := pd_Gex a_wishedPlaces a_wishedSizes sh1 vi1 en1 a_layouts a_gaps a_weights hM1.1
    obtain ⟨m2, L2, G2, fs2, ov2, pr2, fo2, nc2, st2, va2, vi2, en2, on2, sh2, ns2, ki2, kc2, hM2, hG2, hx2, hy2⟩ := ih (i + 1) m1 L1 G1 fs1 ov1 pr1 fo1 nc1 st1 va1 vi1 en1 on1 sh1 ns1 ki1 kc1 (by omega) hM1 hG1
    refine ⟨m2, L2, G2, fs2, ov2, pr2, fo2, nc2, st2, va2, vi2, en2, on2, sh2, ns2, ki2, kc2, hM2, hG2, fun f_treeSize a_tree a_seen a_able a_places a_sizes a_clipStarts a_clipEnds post hD h => ?_, fun g_many b_left b_top b_width b_height b_order b_stack post h => ?_⟩
    · have vi' : vp_in (nI i) 16 := vp_in_nI (by omega) (by omega)
      rw [wX_pump_31]
      dsimp only
      rw [pd_cl (n := i) (by omega), ek]
      refine br_f (nI_ge (by omega) (by omega)) ⟨vi', vi', vi', hx f_treeSize a_tree a_seen a_able a_places a_sizes a_clipStarts a_clipEnds _ hD ?_⟩
      exact px_settleG hM1.1 hM1.2.1 hM1.2.2.2.1 hG1 (fun tn tr se ab pl sz cs ce hD1 => nm_r (nI_1 i) (hx2 tn tr se ab pl sz cs ce post hD1 h))
    · have e0 : 3 * nI i = nI (3 * i) := pd_3 i
      have e1 : nI (3 * i) + 1 = nI (3 * i + 1) := nI_1 _
      have e2 : nI (3 * i) + 2 = nI (3 * i + 2) := nI_add (3 * i) 2
      rw [wY_pump_31]
      dsimp only
      rw [e0, e1, e2, pd_cl (n := 3 * i) (by omega), pd_cl (n := 3 * i + 1) (by omega), pd_cl (n := 3 * i + 2) (by omega), b0, b1, b2, ek]
      refine br_f (nI_ge (by omega) (by omega)) ⟨vp_in_nI (by omega) (by omega), vp_in_nI (by omega) (by omega), vp_in_nI (by omega) (by omega), hy g_many b_left b_top b_width b_height b_order b_stack _ (fun mn od sk lf tp wd hg => nm_r (nI_1 i) ?_)⟩
      exact hy2 mn lf tp wd hg od sk post h
end PEB
end
section
theorem i_vc_pump {k : Nat} {u : SX} {v : SY} (I : i_Rel k u v) (hk : k + 8 ≤ 4096) (v1 : Int32) : wpX_pump (fun r u' => wpY_pump (fun r' v' => r' = r ∧ i_Rel (k + 8) u' v') v v1) u v1 := by
  have I' : i_Rel (k + 8) u v := I
  obtain ⟨L, rk, M, D⟩ := I
  obtain ⟨f_stacked, f_treeSize, f_over, f_pressed, f_focus, f_waiting, f_noteCount, a_there, a_parents, a_kinds, a_colours, a_weights, a_gaps, a_layouts, a_values, a_effects, a_targets, a_visible, a_enabled, a_on, a_wishedPlaces, a_wishedSizes, a_shifts, a_stack, a_tree, a_seen, a_able, a_places, a_sizes, a_clipStarts, a_clipEnds, a_eventKinds, a_eventXs, a_eventYs, a_notes, a_pixels⟩ := u
  obtain ⟨g_many, g_waiting, g_acted, b_kids, b_kidCount, b_left, b_top, b_width, b_height, b_order, b_stack, b_events, rfl, hB, hS, hK, hV, ho, hpr, hf, hq⟩ := M
  obtain ⟨G, hG, hD⟩ := D
  obtain ⟨q, hq16, rfl, rfl, hE⟩ := hq
  unfold wpX_pump
  refine px_wi ?_
  by_cases c1 : pd_wi v1 0 16 = 0
  · refine br_t c1 ?_
    unfold wpY_pump
    exact py_wi (br_t c1 ⟨rfl, I'⟩)
  · refine br_f c1 ?_
    have main : ∀ c : Nat, c ≤ q → (∀ post : Int32 → SY → Prop, (∃ n31, wY_pump_31 post (nI c) n31 0 g_many (nI q) f_noteCount f_over f_pressed f_focus g_acted a_there a_kinds (fun j => a_wishedPlaces (2 * j)) (fun j => a_wishedPlaces (2 * j + 1)) (fun j => a_wishedSizes (2 * j)) (fun j => a_wishedSizes (2 * j + 1)) a_colours a_layouts a_gaps a_weights (fun j => a_shifts (2 * j)) (fun j => a_shifts (2 * j + 1)) a_visible a_enabled a_on a_values a_parents a_effects a_targets b_kids b_kidCount b_left b_top b_width b_height b_order b_stack a_pixels b_events a_notes) → wpY_pump post (g_many, nI q, f_noteCount, f_over, f_pressed, f_focus, g_acted, a_there, a_kinds, (fun j => a_wishedPlaces (2 * j)), (fun j => a_wishedPlaces (2 * j + 1)), (fun j => a_wishedSizes (2 * j)), (fun j => a_wishedSizes (2 * j + 1)), a_colours, a_layouts, a_gaps, a_weights, (fun j => a_shifts (2 * j)), (fun j => a_shifts (2 * j + 1)), a_visible, a_enabled, a_on, a_values, a_parents, a_effects, a_targets, b_kids, b_kidCount, b_left, b_top, b_width, b_height, b_order, b_stack, a_pixels, b_events, a_notes) v1) →
        ∃ n31, wX_pump_31 (fun r u' => wpY_pump (fun r' v' => r' = r ∧ i_Rel (k + 8) u' v') (g_many, nI q, f_noteCount, f_over, f_pressed, f_focus, g_acted, a_there, a_kinds, (fun j => a_wishedPlaces (2 * j)), (fun j => a_wishedPlaces (2 * j + 1)), (fun j => a_wishedSizes (2 * j)), (fun j => a_wishedSizes (2 * j + 1)), a_colours, a_layouts, a_gaps, a_weights, (fun j => a_shifts (2 * j)), (fun j => a_shifts (2 * j + 1)), a_visible, a_enabled, a_on, a_values, a_parents, a_effects, a_targets, b_kids, b_kidCount, b_left, b_top, b_width, b_height, b_order, b_stack, a_pixels, b_events, a_notes) v1) (nI c) n31 0 f_stacked f_treeSize f_over f_pressed f_focus (nI q) f_noteCount a_there a_parents a_kinds a_colours a_weights a_gaps a_layouts a_values a_effects a_targets a_visible a_enabled a_on a_wishedPlaces a_wishedSizes a_shifts a_stack a_tree a_seen a_able a_places a_sizes a_clipStarts a_clipEnds a_eventKinds a_eventXs a_eventYs a_notes a_pixels := by
      intro c hc hyp
      obtain ⟨m', L', G', fs', ov', pr', fo', nc', st', va', vi', en', on', sh', ns', ki', kc', hM', hG', hx, hy⟩ := pd_pumpL (a_there := a_there) (a_parents := a_parents) (a_kinds := a_kinds) (a_colours := a_colours) (a_weights := a_weights) (a_gaps := a_gaps) (a_layouts := a_layouts) (a_effects := a_effects) (a_targets := a_targets) (a_wishedPlaces := a_wishedPlaces) (a_wishedSizes := a_wishedSizes) (a_eventKinds := a_eventKinds) (a_eventXs := a_eventXs) (a_eventYs := a_eventYs) (a_pixels := a_pixels) (b_events := b_events)
        hc hq16 hE c 0 g_acted L G f_stacked f_over f_pressed f_focus f_noteCount a_stack a_values a_visible a_enabled a_on a_shifts a_notes b_kids b_kidCount (by omega) ⟨hB, hS, hK, hV, ho, hpr, hf⟩ hG
      refine ⟨c + 1, hx f_treeSize a_tree a_seen a_able a_places a_sizes a_clipStarts a_clipEnds _ hD (fun tn tr se ab pl sz cs ce hD' => px_drop hc hq16 (px_draw (G := G') hM'.1 hG' hM'.2.2.2.1 hD' (hyp _ ⟨c + 1, hy g_many b_left b_top b_width b_height b_order b_stack _ (fun mn od sk lf tp wd hg => py_drop78 hc hq16 (py_draw (G := G') hM'.1 hM'.2.2.1 hM'.2.2.2.1 hG' (fun mn2 od2 sk2 lf2 tp2 wd2 hg2 => ⟨rfl, ?_⟩)))⟩)))⟩
      exact pd_mk hM'.1 hM'.2.1 hM'.2.2.1 hM'.2.2.2.1 hM'.2.2.2.2.1 hM'.2.2.2.2.2.1 hM'.2.2.2.2.2.2 (pd_QUd hc hq16 hE) ⟨G', hG', hD'⟩
    obtain ⟨n, hn, rfl⟩ := pd_wiN (n := 16) (by decide) c1
    by_cases c2 : nI q ≤ nI n
    · refine br_t c2 (main q (Nat.le_refl _) (fun post h => ?_))
      unfold wpY_pump
      exact py_wi (br_f c1 (br_t c2 h))
    · have hnq : n ≤ q := by
        have := Int32.not_le.mp c2
        rw [nI_ltI (by omega) (by omega)] at this
        omega
      refine br_f c2 (main n hnq (fun post h => ?_))
      unfold wpY_pump
      exact py_wi (br_f c1 (br_f c2 h))
end
