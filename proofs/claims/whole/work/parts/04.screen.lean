section PDD
/-! I: the screen -/
abbrev pd_in (g : pd_V) (x y : Int32) : Prop := g.2.2.2.2.1 0 ≤ x ∧ x < g.2.2.2.2.2 0 ∧ g.2.2.2.2.1 1 ≤ y ∧ y < g.2.2.2.2.2 1
abbrev pd_cov (g : pd_V) (x y : Int32) : Prop := g.1 0 ≤ x ∧ x < g.1 0 + g.2.1 0 ∧ g.1 1 ≤ y ∧ y < g.1 1 + g.2.1 1
abbrev pd_rim (g : pd_V) (x y : Int32) : Prop := x = g.1 0 ∨ x = g.1 0 + g.2.1 0 - 1 ∨ y = g.1 1 ∨ y = g.1 1 + g.2.1 1 - 1
theorem pd_mx {s m x : Int32} : (if s < m then m else s) ≤ x ↔ s ≤ x ∧ m ≤ x := by
  by_cases h : s < m
  · rw [if_pos h]
    rw [Int32.lt_iff_toInt_lt] at h
    simp only [Int32.le_iff_toInt_le]
    omega
  · rw [if_neg h]
    rw [Int32.lt_iff_toInt_lt] at h
    simp only [Int32.le_iff_toInt_le]
    omega
theorem pd_mn {e m x : Int32} : x < (if m < e then m else e) ↔ x < e ∧ x < m := by
  by_cases h : m < e
  · rw [if_pos h]
    rw [Int32.lt_iff_toInt_lt] at h
    simp only [Int32.lt_iff_toInt_lt]
    omega
  · rw [if_neg h]
    rw [Int32.lt_iff_toInt_lt] at h
    simp only [Int32.lt_iff_toInt_lt]
    omega
/-- shown: SEEN and within the clip -/
abbrev pd_sho (g : pd_V) (x y : Int32) : Prop := ¬ g.2.2.1 = 0 ∧ pd_in g x y
theorem pd_10 {c : Prop} [Decidable c] : ¬ (if c then (1 : Int32) else 0) = 0 ↔ c := by
  by_cases h : c
  · rw [if_pos h]; exact ⟨fun _ => h, fun _ => by decide⟩
  · rw [if_neg h]; exact ⟨fun z => absurd rfl z, fun z => absurd z h⟩
theorem pd_sho0 {pa wp ws sh vi en la ga we : Nat → Int32} {L : List Nat} {G : Nat → pd_V} (hG : pd_LE pa wp ws sh vi en la ga we L G) (x y : Int32) : pd_sho (G 0) x y ↔ ¬ vi 0 = 0 ∧ pd_cov (G 0) x y := by
  rw [hG.1]
  simp only [pd_sho, pd_in, pd_cov, pd_R, pd_10]
theorem pd_shos {pa wp ws sh vi en la ga we : Nat → Int32} {L : List Nat} {G : Nat → pd_V} (hG : pd_LE pa wp ws sh vi en la ga we L G) {c p : Nat} (hc : c ∈ L) (hp : p = 0 ∨ p ∈ L) (e : pa c = nI p) (x y : Int32) : pd_sho (G c) x y ↔ (¬ vi c = 0 ∧ pd_cov (G c) x y) ∧ pd_sho (G p) x y := by
  rw [hG.2 c p hc hp e]
  simp only [pd_sho, pd_in, pd_cov, pd_F, pd_10, pd_mx, pd_mn]
  constructor
  · rintro ⟨⟨h1, h2⟩, ⟨h3, h4⟩, ⟨h5, h6⟩, ⟨h7, h8⟩, h9, h10⟩
    exact ⟨⟨h1, h3, h5, h7, h9⟩, h2, h4, h6, h8, h10⟩
  · rintro ⟨⟨h1, h3, h5, h7, h9⟩, h2, h4, h6, h8, h10⟩
    exact ⟨⟨h1, h2⟩, ⟨h3, h4⟩, ⟨h5, h6⟩, ⟨h7, h8⟩, h9, h10⟩
theorem pd_see {pa wp ws sh vi en la ga we : Nat → Int32} {L : List Nat} {G : Nat → pd_V} (hG : pd_LE pa wp ws sh vi en la ga we L G) {c p : Nat} (hc : c ∈ L) (hp : p = 0 ∨ p ∈ L) (e : pa c = nI p) : (G c).2.2.1 = if ¬ vi c = 0 ∧ ¬ (G p).2.2.1 = 0 then 1 else 0 := by
  rw [hG.2 c p hc hp e]; rfl
theorem pd_abl {pa wp ws sh vi en la ga we : Nat → Int32} {L : List Nat} {G : Nat → pd_V} (hG : pd_LE pa wp ws sh vi en la ga we L G) {c p : Nat} (hc : c ∈ L) (hp : p = 0 ∨ p ∈ L) (e : pa c = nI p) : (G c).2.2.2.1 = if ¬ en c = 0 ∧ ¬ (G p).2.2.2.1 = 0 then 1 else 0 := by
  rw [hG.2 c p hc hp e]; rfl
/-- the uppermost of a list that is shown there -/
def pd_fa (G : Nat → pd_V) (x y : Int32) : List Nat → Int32 → Int32
  | [], f => f
  | w :: R, f => pd_fa G x y R (if pd_sho (G w) x y then nI w else f)
theorem pd_faN {G : Nat → pd_V} {x y : Int32} : ∀ (R : List Nat) (f : Int32), (∀ w, w ∈ R → ¬ pd_sho (G w) x y) → pd_fa G x y R f = f
  | [], _, _ => rfl
  | w :: R, f, h => by
    simp only [pd_fa]
    rw [if_neg (h w (List.mem_cons_self ..))]
    exact pd_faN R f (fun v hv => h v (List.mem_cons_of_mem _ hv))
theorem pd_faM {G : Nat → pd_V} {x y : Int32} : ∀ (R : List Nat) (f : Int32), pd_fa G x y R f = f ∨ ∃ w, w ∈ R ∧ pd_fa G x y R f = nI w
  | [], _ => Or.inl rfl
  | w :: R, f => by
    simp only [pd_fa]
    cases pd_faM (G := G) (x := x) (y := y) R (if pd_sho (G w) x y then nI w else f) with
    | inl h =>
      rw [h]
      by_cases c : pd_sho (G w) x y
      · rw [if_pos c]; exact Or.inr ⟨w, List.mem_cons_self .., rfl⟩
      · rw [if_neg c]; exact Or.inl rfl
    | inr h =>
      obtain ⟨v, hv, e⟩ := h
      exact Or.inr ⟨v, List.mem_cons_of_mem _ hv, e⟩
def pd_shd (kd on co : Nat → Int32) (pr ov : Int32) (G : Nat → pd_V) (w : Nat) : Int32 :=
  if (G w).2.2.2.1 = 0 then (if (kd w = 2 ∧ ¬ on w = 0) ∨ (kd w = 1 ∧ pr = nI w ∧ ov = nI w) then co w ^^^ 8 else co w) &&& 7
  else (if (kd w = 2 ∧ ¬ on w = 0) ∨ (kd w = 1 ∧ pr = nI w ∧ ov = nI w) then co w ^^^ 8 else co w)
def pd_px1 (kd on co : Nat → Int32) (pr ov fo : Int32) (G : Nat → pd_V) (w : Nat) (x y c : Int32) : Int32 :=
  if pd_sho (G w) x y then (if fo = nI w ∧ pd_rim (G w) x y then 15 else if co w = 0 then c else pd_shd kd on co pr ov G w) else c
def pd_px (kd on co : Nat → Int32) (pr ov fo : Int32) (G : Nat → pd_V) (x y : Int32) : List Nat → Int32 → Int32
  | [], c => c
  | w :: R, c => pd_px kd on co pr ov fo G x y R (pd_px1 kd on co pr ov fo G w x y c)
/-- nothing is shown outside the screen -/
theorem pd_off {th pa wp ws sh vi en la ga we : Nat → Int32} {L : List Nat} {rk : Nat → Nat} {G : Nat → pd_V} (H : pd_BI th pa L rk) (hG : pd_LE pa wp ws sh vi en la ga we L G) (h0 : wp 0 = 0) (h1 : wp 1 = 0) (h2 : ws 0 = 32) (h3 : ws 1 = 16) {w : Nat} (hw : w = 0 ∨ w ∈ L) {x y : Int32} (hs : pd_sho (G w) x y) : (0 ≤ x ∧ x < 32) ∧ 0 ≤ y ∧ y < 16 := by
  obtain ⟨_, a1, a2, a3, a4⟩ := hs
  obtain ⟨c1, c2⟩ := pd_LEc H hG 0 0 32 h0 (by rw [h0, h2]; decide) w hw
  obtain ⟨c3, c4⟩ := pd_LEc H hG 1 0 16 h1 (by rw [h1, h3]; decide) w hw
  exact ⟨⟨Int32.le_trans c1 a1, Int32.lt_of_lt_of_le a2 c2⟩, Int32.le_trans c3 a3, Int32.lt_of_lt_of_le a4 c4⟩
/-! J: what the drawing, the moving and the dropping loops leave -/
def pd_A (R : Nat → Prop) [DecidablePred R] (T p : Nat → Int32) (i j : Nat) : Nat → Int32 := fun q => if q < 512 ∧ R q ∧ (q / 32 < i ∨ q / 32 = i ∧ q % 32 < j) then T q else p q
theorem pd_Ac (R : Nat → Prop) [DecidablePred R] {T p : Nat → Int32} {i j k l : Nat} (h : ∀ q, q < 512 → R q → ((q / 32 < i ∨ q / 32 = i ∧ q % 32 < j) ↔ (q / 32 < k ∨ q / 32 = k ∧ q % 32 < l))) : pd_A R T p i j = pd_A R T p k l := by
  funext q
  unfold pd_A
  have e : (q < 512 ∧ R q ∧ (q / 32 < i ∨ q / 32 = i ∧ q % 32 < j)) ↔ (q < 512 ∧ R q ∧ (q / 32 < k ∨ q / 32 = k ∧ q % 32 < l)) :=
    ⟨fun ⟨a, b, c⟩ => ⟨a, b, (h q a b).mp c⟩, fun ⟨a, b, c⟩ => ⟨a, b, (h q a b).mpr c⟩⟩
  simp only [e]
theorem pd_A1 (R : Nat → Prop) [DecidablePred R] {T p : Nat → Int32} {i j : Nat} (hi : i < 16) (hj : j < 32) (hR : R (32 * i + j)) : upd (pd_A R T p i j) (32 * i + j) (T (32 * i + j)) = pd_A R T p i (j + 1) := by
  funext q
  by_cases e : q = 32 * i + j
  · subst e
    rw [pd_us]
    unfold pd_A
    rw [if_pos ⟨by omega, hR, by omega⟩]
  · rw [pd_un e]
    unfold pd_A
    have h : (q < 512 ∧ R q ∧ (q / 32 < i ∨ q / 32 = i ∧ q % 32 < j)) ↔ (q < 512 ∧ R q ∧ (q / 32 < i ∨ q / 32 = i ∧ q % 32 < j + 1)) := by
      refine and_congr_right fun _ => and_congr_right fun _ => ?_
      omega
    simp only [h]
theorem pd_A2 (R : Nat → Prop) [DecidablePred R] {T p : Nat → Int32} {i j : Nat} (hi : i < 16) (hj : j < 32) (hT : T (32 * i + j) = p (32 * i + j)) : pd_A R T p i j = pd_A R T p i (j + 1) := by
  funext q
  unfold pd_A
  by_cases e : q = 32 * i + j
  · subst e
    rw [if_neg (by omega)]
    by_cases h : 32 * i + j < 512 ∧ R (32 * i + j) ∧ ((32 * i + j) / 32 < i ∨ (32 * i + j) / 32 = i ∧ (32 * i + j) % 32 < j + 1)
    · rw [if_pos h, hT]
    · rw [if_neg h]
  · have h : (q < 512 ∧ R q ∧ (q / 32 < i ∨ q / 32 = i ∧ q % 32 < j)) ↔ (q < 512 ∧ R q ∧ (q / 32 < i ∨ q / 32 = i ∧ q % 32 < j + 1)) := by
      refine and_congr_right fun _ => and_congr_right fun _ => ?_
      omega
    simp only [h]
theorem pd_A0 (R : Nat → Prop) [DecidablePred R] {T p : Nat → Int32} {i j : Nat} (h : ∀ q, q < 512 → R q → i ≤ q / 32 ∧ j ≤ q % 32) : pd_A R T p i j = p := by
  funext q
  unfold pd_A
  refine if_neg fun ⟨a, b, c⟩ => ?_
  have := h q a b
  omega
theorem pd_A9 (R : Nat → Prop) [DecidablePred R] {T p : Nat → Int32} {i j : Nat} (h : ∀ q, q < 512 → R q → q / 32 < i) (hT : ∀ q, q < 512 → ¬ R q → T q = p q) : pd_A R T p i j = fun q => if q < 512 then T q else p q := by
  funext q
  unfold pd_A
  by_cases a : q < 512
  · by_cases b : R q
    · rw [if_pos ⟨a, b, Or.inl (h q a b)⟩, if_pos a]
    · rw [if_neg (fun z => b z.2.1), if_pos a, hT q a b]
  · rw [if_neg (fun z => a z.1), if_neg a]
/-- a piece filled from below -/
def pd_Z (C p : Nat → Int32) (i : Nat) : Nat → Int32 := fun q => if q < i then C q else p q
theorem pd_Z0 (C p : Nat → Int32) : pd_Z C p 0 = p := by
  funext q; exact if_neg (by omega)
theorem pd_Z1 (C p : Nat → Int32) (i : Nat) : upd (pd_Z C p i) i (C i) = pd_Z C p (i + 1) := by
  funext q
  by_cases e : q = i
  · subst e; rw [pd_us]; exact (if_pos (by omega)).symm
  · rw [pd_un e]
    unfold pd_Z
    have h : q < i ↔ q < i + 1 := by omega
    simp only [h]
/-- all moved down by c, so far up to i -/
def pd_S (f : Nat → Int32) (c i : Nat) : Nat → Int32 := fun j => if j + c < i then f (j + c) else f j
theorem pd_S0 (f : Nat → Int32) (c : Nat) : pd_S f c c = f := by
  funext j; exact if_neg (by omega)
theorem pd_Sg (f : Nat → Int32) {c i : Nat} : pd_S f c i i = f i := if_neg (by omega)
theorem pd_S1 (f : Nat → Int32) {c i : Nat} (h : c ≤ i) : upd (pd_S f c i) (i - c) (f i) = pd_S f c (i + 1) := by
  funext j
  by_cases e : j = i - c
  · subst e
    rw [pd_us]
    unfold pd_S
    rw [if_pos (by omega), show i - c + c = i by omega]
  · rw [pd_un e]
    unfold pd_S
    have h : j + c < i ↔ j + c < i + 1 := by omega
    simp only [h]
/-- all from i on moved up by one, so far down to i -/
def pd_H (f : Nat → Int32) (n i : Nat) : Nat → Int32 := fun j => if i < j ∧ j ≤ n then f (j - 1) else f j
theorem pd_H0 (f : Nat → Int32) (n : Nat) : pd_H f n n = f := by
  funext j; exact if_neg (by omega)
theorem pd_Hg (f : Nat → Int32) {n i : Nat} (h : 0 < i) : pd_H f n i (i - 1) = f (i - 1) := if_neg (by omega)
theorem pd_H1 (f : Nat → Int32) {n i : Nat} (h : i + 1 ≤ n) : upd (pd_H f n (i + 1)) (i + 1) (f i) = pd_H f n i := by
  funext j
  by_cases e : j = i + 1
  · subst e
    rw [pd_us]
    unfold pd_H
    rw [if_pos (by omega)]
    rfl
  · rw [pd_un e]
    unfold pd_H
    have h : (i + 1 < j ∧ j ≤ n) ↔ (i < j ∧ j ≤ n) := by omega
    simp only [h]
theorem pd_Hsg {f : Nat → Int32} {A B : List Nat} {w : Nat} (h : pd_sg f 0 (A ++ B)) : pd_sg (upd (pd_H f (A.length + B.length) A.length) A.length (nI w)) 0 (A ++ w :: B) := by
  refine pd_sg_i h (fun j hj => ?_) pd_us (fun j h1 h2 => ?_)
  · rw [pd_un (by omega)]; exact if_neg (by omega)
  · rw [pd_un (by omega)]; exact if_pos (by omega)
end PDD
