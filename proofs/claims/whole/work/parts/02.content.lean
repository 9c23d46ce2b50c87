section PDB
/-! D: what stands below a widget is reached from the root -/
theorem pd_ind {th pa : Nat → Int32} {L : List Nat} {rk : Nat → Nat} (H : pd_BI th pa L rk) (P : Nat → Prop) (h0 : P 0) (hs : ∀ c p, c ∈ L → (p = 0 ∨ p ∈ L) → pa c = nI p → P p → P c) : ∀ w, (w = 0 ∨ w ∈ L) → P w := by
  have key : ∀ (n w : Nat), rk w < n → (w = 0 ∨ w ∈ L) → P w := by
    intro n
    induction n with
    | zero => intro w hn _; omega
    | succ n ih =>
      intro w hn hw
      cases hw with
      | inl e => subst e; exact h0
      | inr e =>
        obtain ⟨p, hp, ep, hr⟩ := H.2.2.2.2 w e
        exact hs w p e hp ep (ih p (by omega) hp)
  exact fun w hw => key (rk w + 1) w (by omega) hw
/-- what a root's value and a step from parent to child give -/
def pd_gr {V : Type} (pa : Nat → Int32) (r : V) (f : V → Nat → Nat → V) : Nat → Nat → V
  | 0, _ => r
  | n + 1, w => if w = 0 then r else f (pd_gr pa r f n (pa w).toNatClampNeg) (pa w).toNatClampNeg w
theorem pd_gr0 {V : Type} {pa : Nat → Int32} {r : V} {f : V → Nat → Nat → V} : ∀ n, pd_gr pa r f n 0 = r
  | 0 => rfl
  | _ + 1 => if_pos rfl
theorem pd_grs {V : Type} {th pa : Nat → Int32} {L : List Nat} {rk : Nat → Nat} (H : pd_BI th pa L rk) (r : V) (f : V → Nat → Nat → V) : ∀ (n m w : Nat), (w = 0 ∨ w ∈ L) → rk w ≤ n → rk w ≤ m → pd_gr pa r f n w = pd_gr pa r f m w := by
  intro n
  induction n with
  | zero =>
    intro m w hw hn hm
    cases hw with
    | inl e => subst e; rw [pd_gr0, pd_gr0]
    | inr e =>
      obtain ⟨p, hp, ep, hr⟩ := H.2.2.2.2 w e
      omega
  | succ n ih =>
    intro m w hw hn hm
    cases hw with
    | inl e => subst e; rw [pd_gr0, pd_gr0]
    | inr e =>
      obtain ⟨p, hp, ep, hr⟩ := H.2.2.2.2 w e
      have hw0 : ¬ w = 0 := by have := (H.2.1 w e).1; omega
      obtain ⟨m', rfl⟩ : ∃ m', m = m' + 1 := ⟨m - 1, by omega⟩
      have hc : (pa w).toNatClampNeg = p := by rw [ep]; exact pd_cl (by have := pd_12lt H.2.1 hp; omega)
      simp only [pd_gr, if_neg hw0, hc]
      rw [ih m' p hp (by omega) (by omega)]
theorem pd_rec {V : Type} {th pa : Nat → Int32} {L : List Nat} {rk : Nat → Nat} (H : pd_BI th pa L rk) (r : V) (f : V → Nat → Nat → V) : ∃ G : Nat → V, G 0 = r ∧ ∀ c p, c ∈ L → (p = 0 ∨ p ∈ L) → pa c = nI p → G c = f (G p) p c := by
  refine ⟨fun w => pd_gr pa r f (rk w) w, pd_gr0 _, fun c p hc hp ep => ?_⟩
  obtain ⟨q, hq, eq, hr⟩ := H.2.2.2.2 c hc
  have hp12 := pd_12lt H.2.1 hp
  have hq12 := pd_12lt H.2.1 hq
  have : q = p := pd_im (eq.symm.trans ep) (by omega) (by omega)
  subst this
  have hw0 : ¬ c = 0 := by have := (H.2.1 c hc).1; omega
  have hcl : (pa c).toNatClampNeg = q := by rw [ep]; exact pd_cl (by omega)
  show pd_gr pa r f (rk c) c = f (pd_gr pa r f (rk q) q) q c
  obtain ⟨n, en'⟩ : ∃ n, rk c = n + 1 := ⟨rk c - 1, by omega⟩
  rw [en']
  simp only [pd_gr, if_neg hw0, hcl]
  rw [pd_grs H r f n (rk q) q hq (by omega) (by omega)]
/-! E: lines -/
def pd_sh (lo sw w : Int32) : Int32 := if 0 < sw then lo * w / sw else 0
def pd_sw (we vi : Nat → Int32) : List Nat → Int32 → Int32
  | [], s => s
  | c :: R, s => pd_sw we vi R (if vi c = 0 then s else s + we c)
def pd_sr (ws vi : Nat → Int32) (a : Nat) : List Nat → Int32 → Int32
  | [], s => s
  | c :: R, s => pd_sr ws vi a R (if vi c = 0 then s else s - ws (2 * c + a))
def pd_sn (vi : Nat → Int32) : List Nat → Nat → Nat
  | [], n => n
  | c :: R, n => pd_sn vi R (if vi c = 0 then n else n + 1)
def pd_ss (we vi : Nat → Int32) (lo sw : Int32) : List Nat → Int32 → Int32
  | [], s => s
  | c :: R, s => pd_ss we vi lo sw R (if vi c = 0 then s else s + pd_sh lo sw (we c))
def pd_l1 (gp : Int32) (n : Nat) (r : Int32) : Int32 := if 1 < n then r - (nI n - 1) * gp else r
def pd_po (x : Int32) : Int32 := if 0 < x then x else 0
def pd_lo (ws vi : Nat → Int32) (gp : Int32) (a : Nat) (K : List Nat) (sz : Int32) : Int32 := pd_po (pd_l1 gp (pd_sn vi K 0) (pd_sr ws vi a K sz))
def pd_wk (ws we vi : Nat → Int32) (a : Nat) (lo sw gp : Int32) (c : Nat) : List Nat → Int32 → Int32 → Int32 × Int32
  | [], _, _ => (0, 0)
  | d :: R, o, s =>
    if vi d = 0 then pd_wk ws we vi a lo sw gp c R o s
    else if 0 < we d ∧ 0 < o then
      (if c = d then (s, ws (2 * d + a) + pd_sh lo sw (we d) + 1) else pd_wk ws we vi a lo sw gp c R (o + (-1)) (s + (ws (2 * d + a) + pd_sh lo sw (we d) + 1 + gp)))
    else
      (if c = d then (s, ws (2 * d + a) + pd_sh lo sw (we d)) else pd_wk ws we vi a lo sw gp c R o (s + (ws (2 * d + a) + pd_sh lo sw (we d) + gp)))
/-- the line as both sides walk it: g has each one's place and length -/
def pd_PL (ws we vi : Nat → Int32) (a : Nat) (lo sw gp : Int32) (g : Nat → Int32 × Int32) : List Nat → Int32 → Int32 → Prop
  | [], _, _ => True
  | d :: R, o, s => (vi d = 0 → pd_PL ws we vi a lo sw gp g R o s) ∧
    (¬ vi d = 0 → 0 < we d ∧ 0 < o → g d = (s, ws (2 * d + a) + pd_sh lo sw (we d) + 1) ∧ pd_PL ws we vi a lo sw gp g R (o + (-1)) (s + (ws (2 * d + a) + pd_sh lo sw (we d) + 1 + gp))) ∧
    (¬ vi d = 0 → ¬ (0 < we d ∧ 0 < o) → g d = (s, ws (2 * d + a) + pd_sh lo sw (we d)) ∧ pd_PL ws we vi a lo sw gp g R o (s + (ws (2 * d + a) + pd_sh lo sw (we d) + gp)))
theorem pd_PLw {ws we vi : Nat → Int32} {a : Nat} {lo sw gp : Int32} {g : Nat → Int32 × Int32} : ∀ (K : List Nat) (o s : Int32), K.Nodup → (∀ c, c ∈ K → ¬ vi c = 0 → g c = pd_wk ws we vi a lo sw gp c K o s) → pd_PL ws we vi a lo sw gp g K o s
  | [], _, _, _, _ => trivial
  | d :: R, o, s, hN, hg => by
    obtain ⟨hd, hR⟩ := List.nodup_cons.mp hN
    refine ⟨fun hv => pd_PLw R o s hR fun c hc hvc => ?_, fun hv ho => ⟨?_, pd_PLw R _ _ hR fun c hc hvc => ?_⟩, fun hv ho => ⟨?_, pd_PLw R _ _ hR fun c hc hvc => ?_⟩⟩
    · rw [hg c (List.mem_cons_of_mem _ hc) hvc]
      simp only [pd_wk, if_pos hv]
    · rw [hg d (List.mem_cons_self ..) hv]
      simp only [pd_wk, if_neg hv, if_pos ho, if_true]
    · have hcd : ¬ c = d := fun e => hd (e ▸ hc)
      rw [hg c (List.mem_cons_of_mem _ hc) hvc]
      simp only [pd_wk, if_neg hv, if_pos ho, if_neg hcd]
    · rw [hg d (List.mem_cons_self ..) hv]
      simp only [pd_wk, if_neg hv, if_neg ho, if_true]
    · have hcd : ¬ c = d := fun e => hd (e ▸ hc)
      rw [hg c (List.mem_cons_of_mem _ hc) hvc]
      simp only [pd_wk, if_neg hv, if_neg ho, if_neg hcd]
/-- where no one in the line has a weight, the length left over doesn't matter -/
theorem pd_PLi {ws we vi : Nat → Int32} {a : Nat} {lo lo' sw gp : Int32} {g : Nat → Int32 × Int32} (hs : sw = 0) : ∀ (K : List Nat) (o o' s : Int32), (∀ c, c ∈ K → ¬ vi c = 0 → we c = 0) → pd_PL ws we vi a lo sw gp g K o s → pd_PL ws we vi a lo' sw gp g K o' s
  | [], _, _, _, _, _ => trivial
  | d :: R, o, o', s, hw, h => by
    have e : ∀ x y : Int32, pd_sh x sw y = 0 := fun x y => if_neg (by rw [hs]; decide)
    have hR : ∀ c, c ∈ R → ¬ vi c = 0 → we c = 0 := fun c hc => hw c (List.mem_cons_of_mem _ hc)
    refine ⟨fun hv => pd_PLi hs R o o' s hR (h.1 hv), fun hv ho => ?_, fun hv ho => ?_⟩
    · have := hw d (List.mem_cons_self ..) hv
      rw [this] at ho
      exact absurd ho.1 (by decide)
    · have h0 : ¬ (0 < we d ∧ 0 < o) := by
        intro z
        rw [hw d (List.mem_cons_self ..) hv] at z
        exact absurd z.1 (by decide)
      obtain ⟨h1, h2⟩ := h.2.2 hv h0
      simp only [e] at h1 h2 ⊢
      exact ⟨h1, pd_PLi hs R o o' _ hR h2⟩
/-- the sum of the weights is small, and is 0 only where all are -/
theorem pd_swN {we vi : Nat → Int32} (hw : ∀ c, c < 12 → ∃ k, k ≤ 3 ∧ we c = nI k) : ∀ (K : List Nat) (n : Nat), (∀ c, c ∈ K → c < 12) → ∃ m, pd_sw we vi K (nI n) = nI m ∧ n ≤ m ∧ m ≤ n + 3 * K.length ∧ (m = n → ∀ c, c ∈ K → ¬ vi c = 0 → we c = 0)
  | [], n, _ => ⟨n, rfl, Nat.le_refl _, by simp, fun _ c hc => by cases hc⟩
  | d :: R, n, hK => by
    have hR : ∀ c, c ∈ R → c < 12 := fun c hc => hK c (List.mem_cons_of_mem _ hc)
    by_cases hv : vi d = 0
    · obtain ⟨m, e, h1, h2, h3⟩ := pd_swN hw R n hR
      refine ⟨m, by simp only [pd_sw, if_pos hv]; exact e, h1, by simp only [List.length_cons]; omega, fun em c hc hvc => ?_⟩
      cases List.mem_cons.mp hc with
      | inl ec => subst ec; exact absurd hv hvc
      | inr hc => exact h3 em c hc hvc
    · obtain ⟨k, hk, ek⟩ := hw d (hK d (List.mem_cons_self ..))
      obtain ⟨m, e, h1, h2, h3⟩ := pd_swN hw R (n + k) hR
      refine ⟨m, by simp only [pd_sw, if_neg hv, ek, nI_add]; exact e, by omega, by simp only [List.length_cons]; omega, fun em c hc hvc => ?_⟩
      have hk0 : k = 0 := by omega
      cases List.mem_cons.mp hc with
      | inl ec => subst ec; rw [ek, hk0]; exact nI_0
      | inr hc => exact h3 (by omega) c hc hvc
theorem pd_snL (vi : Nat → Int32) : ∀ (K : List Nat) (n : Nat), n ≤ pd_sn vi K n ∧ pd_sn vi K n ≤ n + K.length
  | [], n => ⟨Nat.le_refl _, Nat.le_refl _⟩
  | c :: R, n => by
    simp only [pd_sn, List.length_cons]
    by_cases hv : vi c = 0
    · rw [if_pos hv]
      have := pd_snL vi R n
      omega
    · rw [if_neg hv]
      have := pd_snL vi R (n + 1)
      omega
/-- none in the line: no weight -/
theorem pd_sn0 {we vi : Nat → Int32} : ∀ (K : List Nat) (n : Nat) (s : Int32), pd_sn vi K n = n → pd_sw we vi K s = s
  | [], _, _, _ => rfl
  | c :: R, n, s, h => by
    simp only [pd_sn] at h
    simp only [pd_sw]
    by_cases hv : vi c = 0
    · rw [if_pos hv] at h ⊢
      exact pd_sn0 R n s h
    · rw [if_neg hv] at h
      have := (pd_snL vi R (n + 1)).1
      omega
/-- the other side's way to reckon what is left -/
def pd_yr (ws vi : Nat → Int32) (a : Nat) (gp : Int32) : List Nat → Int32 → Int32
  | [], r => r
  | c :: R, r => pd_yr ws vi a gp R (if vi c = 0 then r else r - (gp + ws (2 * c + a)))
theorem pd_yr_x {ws vi : Nat → Int32} {a : Nat} {gp : Int32} : ∀ (K : List Nat) (n : Nat) (r x : Int32), x = r + gp - nI n * gp → pd_yr ws vi a gp K x = pd_sr ws vi a K r + gp - nI (pd_sn vi K n) * gp
  | [], n, r, x, h => h
  | c :: R, n, r, x, h => by
    simp only [pd_yr, pd_sr, pd_sn]
    by_cases hv : vi c = 0
    · rw [if_pos hv, if_pos hv, if_pos hv]
      exact pd_yr_x R n r x h
    · rw [if_neg hv, if_neg hv, if_neg hv]
      refine pd_yr_x R (n + 1) (r - ws (2 * c + a)) _ ?_
      rw [h, nI_succ]
      grind
theorem pd_yr_l {ws vi : Nat → Int32} {a : Nat} {gp sz : Int32} {K : List Nat} (h : 0 < pd_sn vi K 0) : pd_yr ws vi a gp K (sz + gp) = pd_l1 gp (pd_sn vi K 0) (pd_sr ws vi a K sz) := by
  rw [pd_yr_x K 0 sz (sz + gp) (by rw [nI_0]; grind)]
  unfold pd_l1
  by_cases h1 : 1 < pd_sn vi K 0
  · rw [if_pos h1]
    grind
  · rw [if_neg h1, show pd_sn vi K 0 = 1 by omega, show nI 1 = 1 from rfl]
    grind
/-! F: the picture: of each widget its place and size, SEEN, ABLE, its clip -/
abbrev pd_V : Type := (Nat → Int32) × (Nat → Int32) × Int32 × Int32 × (Nat → Int32) × (Nat → Int32)
def pd_Fp (pa wp ws sh vi la ga we : Nat → Int32) (L : List Nat) (g : pd_V) (p c a : Nat) : Int32 × Int32 :=
  if la p = 0 then (g.1 a + wp (2 * c + a) - sh (2 * p + a), ws (2 * c + a))
  else if vi c = 0 then (g.1 a, ws (2 * c + a))
  else if la p = nI (a + 1) then
    pd_wk ws we vi a (pd_lo ws vi (ga p) a (pd_kd pa L p) (g.2.1 a)) (pd_sw we vi (pd_kd pa L p) 0) (ga p) c (pd_kd pa L p)
      (pd_lo ws vi (ga p) a (pd_kd pa L p) (g.2.1 a) - pd_ss we vi (pd_lo ws vi (ga p) a (pd_kd pa L p) (g.2.1 a)) (pd_sw we vi (pd_kd pa L p) 0) (pd_kd pa L p) 0)
      (g.1 a - sh (2 * p + a))
  else (g.1 a - sh (2 * p + a), g.2.1 a)
def pd_F (pa wp ws sh vi en la ga we : Nat → Int32) (L : List Nat) (g : pd_V) (p c : Nat) : pd_V :=
  (fun a => (pd_Fp pa wp ws sh vi la ga we L g p c a).1,
   fun a => (pd_Fp pa wp ws sh vi la ga we L g p c a).2,
   if ¬ vi c = 0 ∧ ¬ g.2.2.1 = 0 then 1 else 0,
   if ¬ en c = 0 ∧ ¬ g.2.2.2.1 = 0 then 1 else 0,
   fun a => if (pd_Fp pa wp ws sh vi la ga we L g p c a).1 < g.2.2.2.2.1 a then g.2.2.2.2.1 a else (pd_Fp pa wp ws sh vi la ga we L g p c a).1,
   fun a => if g.2.2.2.2.2 a < (pd_Fp pa wp ws sh vi la ga we L g p c a).1 + (pd_Fp pa wp ws sh vi la ga we L g p c a).2 then g.2.2.2.2.2 a else (pd_Fp pa wp ws sh vi la ga we L g p c a).1 + (pd_Fp pa wp ws sh vi la ga we L g p c a).2)
def pd_R (wp ws vi en : Nat → Int32) : pd_V :=
  (wp, ws, if ¬ vi 0 = 0 then 1 else 0, if ¬ en 0 = 0 then 1 else 0, wp, fun a => wp a + ws a)
/-- the picture's own equations -/
def pd_LE (pa wp ws sh vi en la ga we : Nat → Int32) (L : List Nat) (G : Nat → pd_V) : Prop :=
  G 0 = pd_R wp ws vi en ∧ ∀ c p, c ∈ L → (p = 0 ∨ p ∈ L) → pa c = nI p → G c = pd_F pa wp ws sh vi en la ga we L (G p) p c
theorem pd_Gex {th pa : Nat → Int32} (wp ws sh vi en la ga we : Nat → Int32) {L : List Nat} {rk : Nat → Nat} (H : pd_BI th pa L rk) : ∃ G, pd_LE pa wp ws sh vi en la ga we L G :=
  pd_rec H (pd_R wp ws vi en) (fun g p c => pd_F pa wp ws sh vi en la ga we L g p c)
/-- the line that a row's or a column's kids make -/
theorem pd_LEp {th pa wp ws sh vi en la ga we : Nat → Int32} {L : List Nat} {rk : Nat → Nat} {G : Nat → pd_V} (H : pd_BI th pa L rk) (hG : pd_LE pa wp ws sh vi en la ga we L G) {p a : Nat} (hp : p = 0 ∨ p ∈ L) (hl0 : ¬ la p = 0) (hl : la p = nI (a + 1)) :
    pd_PL ws we vi a (pd_lo ws vi (ga p) a (pd_kd pa L p) ((G p).2.1 a)) (pd_sw we vi (pd_kd pa L p) 0) (ga p) (fun c => ((G c).1 a, (G c).2.1 a)) (pd_kd pa L p)
      (pd_lo ws vi (ga p) a (pd_kd pa L p) ((G p).2.1 a) - pd_ss we vi (pd_lo ws vi (ga p) a (pd_kd pa L p) ((G p).2.1 a)) (pd_sw we vi (pd_kd pa L p) 0) (pd_kd pa L p) 0)
      ((G p).1 a - sh (2 * p + a)) := by
  refine pd_PLw _ _ _ (pd_nkd H.1) fun c hc hv => ?_
  obtain ⟨hcL, hcp⟩ := pd_mkd.mp hc
  have e := hG.2 c p hcL hp hcp
  show ((G c).1 a, (G c).2.1 a) = _
  rw [e]
  simp only [pd_F, pd_Fp, if_neg hl0, if_neg hv, if_pos hl]
theorem pd_Gfree {pa wp ws sh vi en la ga we : Nat → Int32} {L : List Nat} {G : Nat → pd_V} (hG : pd_LE pa wp ws sh vi en la ga we L G) {p c : Nat} (hp : p = 0 ∨ p ∈ L) (hc : c ∈ pd_kd pa L p) (h : la p = 0) (a : Nat) : (G c).1 a = (G p).1 a + wp (2 * c + a) - sh (2 * p + a) ∧ (G c).2.1 a = ws (2 * c + a) := by
  obtain ⟨hcL, hcp⟩ := pd_mkd.mp hc
  rw [hG.2 c p hcL hp hcp]
  simp only [pd_F, pd_Fp, if_pos h, and_self]
theorem pd_Ghid {pa wp ws sh vi en la ga we : Nat → Int32} {L : List Nat} {G : Nat → pd_V} (hG : pd_LE pa wp ws sh vi en la ga we L G) {p c : Nat} (hp : p = 0 ∨ p ∈ L) (hc : c ∈ pd_kd pa L p) (h : ¬ la p = 0) (hv : vi c = 0) (a : Nat) : (G c).1 a = (G p).1 a ∧ (G c).2.1 a = ws (2 * c + a) := by
  obtain ⟨hcL, hcp⟩ := pd_mkd.mp hc
  rw [hG.2 c p hcL hp hcp]
  simp only [pd_F, pd_Fp, if_neg h, if_pos hv, and_self]
theorem pd_Gacr {pa wp ws sh vi en la ga we : Nat → Int32} {L : List Nat} {G : Nat → pd_V} (hG : pd_LE pa wp ws sh vi en la ga we L G) {p c : Nat} (hp : p = 0 ∨ p ∈ L) (hc : c ∈ pd_kd pa L p) (h : ¬ la p = 0) (hv : ¬ vi c = 0) {a : Nat} (ha : ¬ la p = nI (a + 1)) : (G c).1 a = (G p).1 a - sh (2 * p + a) ∧ (G c).2.1 a = (G p).2.1 a := by
  obtain ⟨hcL, hcp⟩ := pd_mkd.mp hc
  rw [hG.2 c p hcL hp hcp]
  simp only [pd_F, pd_Fp, if_neg h, if_neg hv, if_neg ha, and_self]
/-- the clips lie on the screen -/
theorem pd_LEc {th pa wp ws sh vi en la ga we : Nat → Int32} {L : List Nat} {rk : Nat → Nat} {G : Nat → pd_V} (H : pd_BI th pa L rk) (hG : pd_LE pa wp ws sh vi en la ga we L G) (a : Nat) (x y : Int32) (hx : wp a = x) (hy : wp a + ws a = y) : ∀ w, (w = 0 ∨ w ∈ L) → x ≤ (G w).2.2.2.2.1 a ∧ (G w).2.2.2.2.2 a ≤ y := by
  refine pd_ind H _ ?_ ?_
  · rw [hG.1]
    simp only [pd_R]
    exact ⟨by rw [hx]; exact Int32.le_refl _, by rw [hy]; exact Int32.le_refl _⟩
  · intro c p hc hp ep ih
    rw [hG.2 c p hc hp ep]
    simp only [pd_F]
    refine ⟨?_, ?_⟩
    · by_cases h : (pd_Fp pa wp ws sh vi la ga we L (G p) p c a).1 < (G p).2.2.2.2.1 a
      · rw [if_pos h]; exact ih.1
      · rw [if_neg h]; exact Int32.le_trans ih.1 (Int32.not_lt.mp h)
    · by_cases h : (G p).2.2.2.2.2 a < (pd_Fp pa wp ws sh vi la ga we L (G p) p c a).1 + (pd_Fp pa wp ws sh vi la ga we L (G p) p c a).2
      · rw [if_pos h]; exact ih.2
      · rw [if_neg h]; exact Int32.le_trans (Int32.not_lt.mp h) ih.2
end PDB
