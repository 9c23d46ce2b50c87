section PDC
/-! G: bits -/
def bt (x : Int32) (i : Nat) : Bool := x.toBitVec.getLsbD i
theorem b_ext {x y : Int32} (h : ∀ i, i < 32 → bt x i = bt y i) : x = y := Int32.toBitVec_inj.mp (BitVec.eq_of_getLsbD_eq (fun i hi => h i hi))
theorem b_or (x y : Int32) (i : Nat) : bt (x ||| y) i = (bt x i || bt y i) := by unfold bt; rw [Int32.toBitVec_or, BitVec.getLsbD_or]
theorem b_and (x y : Int32) (i : Nat) : bt (x &&& y) i = (bt x i && bt y i) := by unfold bt; rw [Int32.toBitVec_and, BitVec.getLsbD_and]
theorem b_0 (i : Nat) : bt 0 i = false := BitVec.getLsbD_zero
theorem s_l : ∀ n, n < 32 → ((nI n &&& 31).toBitVec.smod 32).toNat = n := by decide +kernel
theorem b_shl (n : Nat) (hn : n < 32) (x : Int32) {i : Nat} (hi : i < 32) : bt (x <<< (nI n &&& 31)) i = (decide (n ≤ i) && bt x (i - n)) := by
  unfold bt
  rw [Int32.toBitVec_shiftLeft]
  show (x.toBitVec <<< ((nI n &&& 31).toBitVec.smod 32).toNat).getLsbD i = _
  rw [s_l n hn, BitVec.getLsbD_shiftLeft]
  rcases Nat.lt_or_ge i n with h | h
  · simp [h, Nat.not_le.mpr h]
  · simp [hi, h, Nat.not_lt.mpr h]
theorem b_sshr (n : Nat) (hn : n < 32) (x : Int32) {i : Nat} (hi : i < 32) : bt (x >>> (nI n &&& 31)) i = if n + i < 32 then bt x (n + i) else bt x 31 := by
  unfold bt
  rw [Int32.toBitVec_shiftRight]
  show (x.toBitVec.sshiftRight ((nI n &&& 31).toBitVec.smod 32).toNat).getLsbD i = _
  rw [s_l n hn, BitVec.getLsbD_sshiftRight, BitVec.msb_eq_getLsbD_last]
  simp [hi]
theorem pd_bt1 : ∀ i, i < 32 → bt 1 i = decide (i = 0) := by decide +kernel
theorem pd_bt0 (m : Int32) {l : Nat} (hl : l < 32) : (m >>> (nI l &&& 31)) &&& 1 = 0 ↔ bt m l = false := by
  constructor
  · intro h
    have e := congrArg (fun z => bt z 0) h
    simp only [b_and, b_0] at e
    rw [b_sshr l hl m (by omega), if_pos (by omega), pd_bt1 0 (by omega)] at e
    simpa using e
  · intro h
    apply b_ext
    intro i hi
    rw [b_and, b_0, pd_bt1 i hi]
    by_cases e : i = 0
    · subst e; rw [b_sshr l hl m (by omega), if_pos (by omega), Nat.add_zero, h]; rfl
    · simp [e]
theorem pd_btS (m : Int32) {w l : Nat} (hw : w < 32) (hl : l < 32) : bt (m ||| ((1 : Int32) <<< (nI w &&& 31))) l = (bt m l || decide (l = w)) := by
  rw [b_or, b_shl w hw 1 hl]
  congr 1
  by_cases h : w ≤ l
  · rw [pd_bt1 (l - w) (by omega)]
    by_cases e : l = w
    · simp [e]
    · have : ¬ l - w = 0 := by omega
      simp [h, e, this]
  · have : ¬ l = w := by omega
    simp [h, this]
/-- how many have no bit yet -/
def pd_cu (m : Int32) : Nat → Nat
  | 0 => 0
  | n + 1 => pd_cu m n + (if bt m n = false then 1 else 0)
theorem pd_cuK (m : Int32) {w : Nat} (hw : w < 32) : ∀ n, n ≤ w → pd_cu (m ||| ((1 : Int32) <<< (nI w &&& 31))) n = pd_cu m n
  | 0, _ => rfl
  | n + 1, h => by
    have e : ¬ n = w := by omega
    simp only [pd_cu]
    rw [pd_cuK m hw n (by omega), pd_btS m hw (by omega), decide_eq_false e, Bool.or_false]
theorem pd_cuS (m : Int32) {w : Nat} (hm : bt m w = false) : ∀ n, w < n → n ≤ 32 → pd_cu (m ||| ((1 : Int32) <<< (nI w &&& 31))) n + 1 = pd_cu m n
  | 0, h, _ => by omega
  | n + 1, h, h2 => by
    simp only [pd_cu]
    by_cases e : n = w
    · subst e
      rw [pd_cuK m (by omega) n (by omega), pd_btS m (by omega) (by omega), hm]
      simp
    · have i := pd_cuS m hm n (by omega) (by omega)
      rw [pd_btS m (by omega) (by omega), decide_eq_false e, Bool.or_false]
      omega
theorem pd_cu0 : pd_cu 0 12 = 12 := by
  have : ∀ n, pd_cu 0 n = n := by
    intro n
    induction n with
    | zero => rfl
    | succ n ih => simp only [pd_cu, ih, b_0, if_true]
  exact this 12
/-! H: a widget out of a list, put behind, put ahead -/
def pd_rm (L : List Nat) (w : Nat) : List Nat := L.filter (fun x => decide (x ≠ w))
theorem pd_mrm {L : List Nat} {w x : Nat} : x ∈ pd_rm L w ↔ x ∈ L ∧ x ≠ w := by
  unfold pd_rm; rw [List.mem_filter, decide_eq_true_iff]
theorem pd_rmN {L : List Nat} {w : Nat} (h : L.Nodup) : (pd_rm L w).Nodup := List.Nodup.sublist List.filter_sublist h
theorem pd_rm0 {L : List Nat} {w : Nat} (h : w ∉ L) : pd_rm L w = L := by
  unfold pd_rm
  rw [List.filter_eq_self]
  intro a ha
  rw [decide_eq_true_iff]
  exact fun e => h (e ▸ ha)
theorem pd_kdrm (pa : Nat → Int32) (L : List Nat) (w q : Nat) : pd_kd pa (pd_rm L w) q = pd_rm (pd_kd pa L q) w := by
  unfold pd_kd pd_rm
  rw [List.filter_filter, List.filter_filter]
  congr 1
  funext x
  exact Bool.and_comm _ _
theorem pd_kd_a (pa : Nat → Int32) (A B : List Nat) (q : Nat) : pd_kd pa (A ++ B) q = pd_kd pa A q ++ pd_kd pa B q := by
  unfold pd_kd; rw [List.filter_append]
theorem pd_kd1 {pa : Nat → Int32} {w q : Nat} (h : pa w = nI q) : pd_kd pa [w] q = [w] := by
  unfold pd_kd; simp [h]
theorem pd_kd1n {pa : Nat → Int32} {w q : Nat} (h : ¬ pa w = nI q) : pd_kd pa [w] q = [] := by
  unfold pd_kd; simp [h]
theorem pd_kdc {pa pa' : Nat → Int32} {L : List Nat} {q : Nat} (h : ∀ x, x ∈ L → pa' x = pa x) : pd_kd pa' L q = pd_kd pa L q := by
  unfold pd_kd
  apply List.filter_congr
  intro x hx
  rw [h x hx]
theorem pd_rmlen {L : List Nat} {w : Nat} (h : L.Nodup) (hw : w ∈ L) : (pd_rm L w).length + 1 = L.length := by
  have e := List.Nodup.erase_eq_filter h w
  have l := List.length_erase_of_mem hw
  have : pd_rm L w = L.erase w := by
    rw [e]; unfold pd_rm
    apply List.filter_congr
    intro x _
    by_cases hx : x = w
    · simp [hx]
    · simp [hx]
  rw [this, l]
  have := List.length_pos_of_mem hw
  omega
/-- raised or lowered: the same widgets in another order -/
theorem pd_BIr {th pa : Nat → Int32} {L L' : List Nat} {rk : Nat → Nat} (H : pd_BI th pa L rk) (hN : L'.Nodup) (hM : ∀ x, x ∈ L' ↔ x ∈ L) : pd_BI th pa L' rk := by
  obtain ⟨_, b2, b3, b4, b5⟩ := H
  refine ⟨hN, fun w hw => b2 w ((hM w).mp hw), fun w hw => by rw [hM]; exact b3 w hw, b4, fun w hw => ?_⟩
  obtain ⟨p, hp, e, r⟩ := b5 w ((hM w).mp hw)
  exact ⟨p, by rw [hM]; exact hp, e, r⟩
theorem pd_hiN {L : List Nat} {w : Nat} (h : L.Nodup) : (pd_rm L w ++ [w]).Nodup := by
  refine List.nodup_append.mpr ⟨pd_rmN h, by simp, fun a ha b hb e => ?_⟩
  have : b = w := by simpa using hb
  exact (pd_mrm.mp ha).2 (e.trans this)
theorem pd_hiM {L : List Nat} {w : Nat} (hw : w ∈ L) (x : Nat) : x ∈ pd_rm L w ++ [w] ↔ x ∈ L := by
  rw [List.mem_append, pd_mrm]
  constructor
  · rintro (h | h)
    · exact h.1
    · have : x = w := by simpa using h
      rw [this]; exact hw
  · intro h
    by_cases e : x = w
    · exact Or.inr (by simp [e])
    · exact Or.inl ⟨h, e⟩
theorem pd_loN {L : List Nat} {w : Nat} (h : L.Nodup) : (w :: pd_rm L w).Nodup :=
  List.nodup_cons.mpr ⟨fun z => (pd_mrm.mp z).2 rfl, pd_rmN h⟩
theorem pd_loM {L : List Nat} {w : Nat} (hw : w ∈ L) (x : Nat) : x ∈ w :: pd_rm L w ↔ x ∈ L := by
  rw [List.mem_cons, pd_mrm]
  constructor
  · rintro (h | h)
    · rw [h]; exact hw
    · exact h.1
  · intro h
    by_cases e : x = w
    · exact Or.inl e
    · exact Or.inr ⟨h, e⟩
theorem pd_kdhi {pa : Nat → Int32} {L : List Nat} {w p : Nat} (e : pa w = nI p) : pd_kd pa (pd_rm L w ++ [w]) p = pd_rm (pd_kd pa L p) w ++ [w] := by
  rw [pd_kd_a, pd_kdrm, pd_kd1 e]
theorem pd_kdlo {pa : Nat → Int32} {L : List Nat} {w p : Nat} (e : pa w = nI p) : pd_kd pa (w :: pd_rm L w) p = w :: pd_rm (pd_kd pa L p) w := by
  rw [show w :: pd_rm L w = [w] ++ pd_rm L w from rfl, pd_kd_a, pd_kdrm, pd_kd1 e]
  rfl
theorem pd_kdhin {pa : Nat → Int32} {L : List Nat} {w q : Nat} (e : ¬ pa w = nI q) : pd_kd pa (pd_rm L w ++ [w]) q = pd_kd pa L q := by
  rw [pd_kd_a, pd_kdrm, pd_kd1n e, List.append_nil, pd_rm0 (fun z => e (pd_mkd.mp z).2)]
theorem pd_kdlon {pa : Nat → Int32} {L : List Nat} {w q : Nat} (e : ¬ pa w = nI q) : pd_kd pa (w :: pd_rm L w) q = pd_kd pa L q := by
  rw [show w :: pd_rm L w = [w] ++ pd_rm L w from rfl, pd_kd_a, pd_kdrm, pd_kd1n e, List.nil_append, pd_rm0 (fun z => e (pd_mkd.mp z).2)]
/-- a new widget -/
theorem pd_BIn {th pa : Nat → Int32} {L : List Nat} {rk : Nat → Nat} (H : pd_BI th pa L rk) {w p : Nat} (hw : w < 12) (ht : th w = 0) (hp : p < 12) (htp : th p ≠ 0) :
    pd_BI (upd th w 1) (upd pa w (nI p)) (L ++ [w]) (fun x => if x = w then rk p + 1 else rk x) ∧ w ∉ L ∧ 0 < w ∧ (p = 0 ∨ p ∈ L) ∧ p ≠ w ∧
    (∀ q, (q = 0 ∨ q ∈ L) → q ≠ p → pd_kd (upd pa w (nI p)) (L ++ [w]) q = pd_kd pa L q) ∧ pd_kd (upd pa w (nI p)) (L ++ [w]) p = pd_kd pa L p ++ [w] ∧ pd_kd (upd pa w (nI p)) (L ++ [w]) w = [] := by
  obtain ⟨b1, b2, b3, b4, b5⟩ := H
  have hwn : ¬ (w = 0 ∨ w ∈ L) := fun z => (b3 w hw).mpr z ht
  have hwL : w ∉ L := fun z => hwn (Or.inr z)
  have hw0 : ¬ w = 0 := fun z => hwn (Or.inl z)
  have hpL : p = 0 ∨ p ∈ L := (b3 p hp).mp htp
  have hpw : p ≠ w := fun e => hwn (e ▸ hpL)
  have hc : ∀ x, x ∈ L → upd pa w (nI p) x = pa x := fun x hx => pd_un (fun e => hwL (e ▸ hx))
  refine ⟨⟨?_, ?_, ?_, ?_, ?_⟩, hwL, by omega, hpL, hpw, ?_, ?_, ?_⟩
  · refine List.nodup_append.mpr ⟨b1, by simp, fun a ha b hb e => ?_⟩
    have : b = w := by simpa using hb
    exact hwL (this ▸ e ▸ ha)
  · intro x hx
    cases List.mem_append.mp hx with
    | inl h => exact b2 x h
    | inr h =>
      have : x = w := by simpa using h
      omega
  · intro x hx
    by_cases e : x = w
    · subst e
      rw [pd_us]
      exact ⟨fun _ => Or.inr (by simp), fun _ => by decide⟩
    · rw [pd_un e, b3 x hx, List.mem_append]
      constructor
      · rintro (h | h)
        · exact Or.inl h
        · exact Or.inr (Or.inl h)
      · rintro (h | h | h)
        · exact Or.inl h
        · exact Or.inr h
        · exact absurd (by simpa using h) e
  · rw [pd_un (fun e => hw0 e.symm)]; exact b4
  · intro x hx
    by_cases e : x = w
    · subst e
      refine ⟨p, ?_, pd_us, ?_⟩
      · exact hpL.imp id (fun h => List.mem_append_left _ h)
      · dsimp only; rw [if_pos rfl, if_neg hpw]; omega
    · have hxL : x ∈ L := by
        cases List.mem_append.mp hx with
        | inl h => exact h
        | inr h => exact absurd (by simpa using h) e
      obtain ⟨q, hq, eq, hr⟩ := b5 x hxL
      have hqw : q ≠ w := fun e => hwn (e ▸ hq)
      refine ⟨q, hq.imp id (fun h => List.mem_append_left _ h), by rw [pd_un e]; exact eq, ?_⟩
      dsimp only; rw [if_neg e, if_neg hqw]; exact hr
  · intro q hq hqp
    have hq12 := pd_12lt b2 hq
    rw [pd_kd_a, pd_kdc hc, pd_kd1n, List.append_nil]
    rw [pd_us]
    exact fun e => hqp (pd_im e (by omega) (by omega)).symm
  · rw [pd_kd_a, pd_kdc hc, pd_kd1 pd_us]
  · rw [pd_kd_a, pd_kdc hc, pd_kd1n (by rw [pd_us]; exact fun e => hpw (pd_im e (by omega) (by omega))), List.append_nil]
    apply List.eq_nil_iff_forall_not_mem.mpr
    intro x hx
    obtain ⟨hxL, hxp⟩ := pd_mkd.mp hx
    obtain ⟨q, hq, eq, hr⟩ := b5 x hxL
    have hq12 := pd_12lt b2 hq
    have : q = w := pd_im (eq.symm.trans hxp) (by omega) (by omega)
    exact hwn (this ▸ hq)
/-- a widget and all that hangs below it taken away -/
theorem pd_BId {th th' pa : Nat → Int32} {L : List Nat} {rk : Nat → Nat} (H : pd_BI th pa L rk) {a : Nat} {de : Nat → Bool} (h0 : de 0 = false) (hd : ∀ c p, c ∈ L → (p = 0 ∨ p ∈ L) → pa c = nI p → de c = (decide (c = a) || de p)) (ht : ∀ w, w < 12 → (th' w ≠ 0 ↔ th w ≠ 0 ∧ de w = false)) :
    pd_BI th' pa (L.filter (fun w => !de w)) rk ∧ ∀ q, (q = 0 ∨ q ∈ L) → de q = false → pd_kd pa (L.filter (fun w => !de w)) q = pd_rm (pd_kd pa L q) a := by
  obtain ⟨b1, b2, b3, b4, b5⟩ := H
  have hm : ∀ x, x ∈ L.filter (fun w => !de w) ↔ x ∈ L ∧ de x = false := by
    intro x; rw [List.mem_filter]; simp
  refine ⟨⟨List.Nodup.sublist List.filter_sublist b1, fun w hw => b2 w ((hm w).mp hw).1, ?_, b4, ?_⟩, ?_⟩
  · intro w hw
    rw [ht w hw, b3 w hw, hm]
    constructor
    · rintro ⟨h | h, h2⟩
      · exact Or.inl h
      · exact Or.inr ⟨h, h2⟩
    · rintro (h | h)
      · exact ⟨Or.inl h, h ▸ h0⟩
      · exact ⟨Or.inr h.1, h.2⟩
  · intro w hw
    obtain ⟨hwL, hwd⟩ := (hm w).mp hw
    obtain ⟨p, hp, e, r⟩ := b5 w hwL
    refine ⟨p, ?_, e, r⟩
    have := hd w p hwL hp e
    rw [hwd] at this
    cases hp with
    | inl h => exact Or.inl h
    | inr h =>
      refine Or.inr ((hm p).mpr ⟨h, ?_⟩)
      cases hdp : de p with
      | false => rfl
      | true => rw [hdp, Bool.or_true] at this; exact absurd this (by decide)
  · intro q hq hdq
    unfold pd_kd pd_rm
    rw [List.filter_filter, List.filter_filter]
    apply List.filter_congr
    intro x hx
    by_cases e : pa x = nI q
    · have := hd x q hx hq e
      rw [hdq, Bool.or_false] at this
      rw [this, decide_eq_true e]
      by_cases ea : x = a
      · simp [ea]
      · simp [ea]
    · rw [decide_eq_false e, Bool.false_and, Bool.and_false]
/-- two ways to count the same widgets -/
theorem pd_cnt {th pa : Nat → Int32} {L : List Nat} {rk : Nat → Nat} (H : pd_BI th pa L rk) (de : Nat → Bool) : ((pd_ord pa L).filter de).length = ((List.range 12).filter (fun w => decide (th w ≠ 0) && de w)).length := by
  apply List.Perm.length_eq
  rw [List.perm_ext_iff_of_nodup (List.Nodup.sublist List.filter_sublist (pd_ordN H)) (List.Nodup.sublist List.filter_sublist List.nodup_range)]
  intro w
  rw [List.mem_filter, List.mem_filter, pd_ordM H, List.mem_range, Bool.and_eq_true, decide_eq_true_iff]
  constructor
  · rintro ⟨h, hd⟩
    have h12 := pd_12lt H.2.1 h
    exact ⟨h12, (H.2.2.1 w h12).mpr h, hd⟩
  · rintro ⟨h12, h, hd⟩
    exact ⟨(H.2.2.1 w h12).mp h, hd⟩
/-- a list drawn together in its array: A is kept, d comes to it -/
theorem pd_cmp {a : Nat → Int32} {b i d : Nat} {A R : List Nat} (hA : pd_sg a b A) (hR : pd_sg a (b + i) (d :: R)) (hl : A.length ≤ i) : pd_sg (upd a (b + A.length) (nI d)) b (A ++ [d]) ∧ pd_sg (upd a (b + A.length) (nI d)) (b + (i + 1)) R := by
  refine ⟨(pd_sg_a A [d] b).mpr ⟨pd_sg_c A b hA (fun j _ hj => pd_un (by omega)), pd_us, trivial⟩, ?_⟩
  exact pd_sg_c R (b + (i + 1)) hR.2 (fun j h1 _ => pd_un (by omega))
/-- what becomes of over, pressed, focus where widgets go -/
def pd_ovf (th : Nat → Int32) (o : Int32) : Int32 := if o = -1 then -1 else if th o.toNatClampNeg = 0 then -1 else o
theorem pd_ovu {th : Nat → Int32} {L : List Nat} (hL : ∀ w, w ∈ L → 0 < w ∧ w < 12) {o : Int32} (ho : o = -1 ∨ ∃ v, (v = 0 ∨ v ∈ L) ∧ o = nI v) {w : Nat} (hw : w < 12) : pd_ovf (upd th w 0) o = if pd_ovf th o = nI w then -1 else pd_ovf th o := by
  unfold pd_ovf
  cases ho with
  | inl e =>
    subst e
    rw [if_pos rfl, if_pos rfl, if_neg (pd_1ne (by omega))]
  | inr e =>
    obtain ⟨v, hv, rfl⟩ := e
    have hv12 := pd_12lt hL hv
    have hn : ¬ nI v = -1 := pd_ne1 (by omega)
    rw [if_neg hn, if_neg hn, pd_cl (by omega)]
    by_cases z : th v = 0
    · rw [if_pos z, if_neg (pd_1ne (by omega))]
      by_cases evw : v = w
      · subst evw; rw [pd_us, if_pos rfl]
      · rw [pd_un evw, if_pos z]
    · rw [if_neg z]
      by_cases evw : v = w
      · subst evw; rw [pd_us, if_pos rfl, if_pos rfl]
      · rw [pd_un evw, if_neg z, if_neg (fun h => evw (pd_im h (by omega) (by omega)))]
end PDC
