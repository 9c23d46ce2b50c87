section PDE
/-! K: the relation -/
def pd_SP (L : List Nat) (x : Int32) : Prop := x = -1 ∨ ∃ w, (w = 0 ∨ w ∈ L) ∧ x = nI w
def pd_ST (n : Int32) (a : Nat → Int32) (L : List Nat) : Prop := n = nI L.length ∧ pd_sg a 0 L
def pd_KD (pa kc ki : Nat → Int32) (L : List Nat) : Prop := ∀ p, (p = 0 ∨ p ∈ L) → kc p = nI (pd_kd pa L p).length ∧ pd_sg ki (12 * p) (pd_kd pa L p)
def pd_VA (wp ws we la ta sh : Nat → Int32) : Prop :=
  (wp 0 = 0 ∧ wp 1 = 0 ∧ ws 0 = 32 ∧ ws 1 = 16) ∧ (∀ c, c < 12 → ∃ k, k ≤ 3 ∧ we c = nI k) ∧ (∀ c, c < 12 → ∃ k, k ≤ 2 ∧ la c = nI k) ∧
  (∀ c, c < 12 → ∃ k, k < 12 ∧ ta c = nI k) ∧ (∀ j, j < 24 → sh j ≤ 20)
def pd_QU (nx ny : Int32) (ek ex ey ev : Nat → Int32) : Prop := ∃ q, q ≤ 16 ∧ nx = nI q ∧ ny = nI q ∧
  ∀ i, i < q → (∃ k, k ≤ 4 ∧ ek i = nI k) ∧ ev (3 * i) = ek i ∧ ev (3 * i + 1) = ex i ∧ ev (3 * i + 2) = ey i
def pd_DA (G : Nat → pd_V) (se ab pl sz cs ce : Nat → Int32) (w : Nat) : Prop :=
  (∀ a, a < 2 → pl (2 * w + a) = (G w).1 a ∧ sz (2 * w + a) = (G w).2.1 a ∧ cs (2 * w + a) = (G w).2.2.2.2.1 a ∧ ce (2 * w + a) = (G w).2.2.2.2.2 a) ∧ se w = (G w).2.2.1 ∧ ab w = (G w).2.2.2.1
def pd_DE (pa wp ws sh vi en la ga we : Nat → Int32) (L : List Nat) (tn : Int32) (tr se ab pl sz cs ce : Nat → Int32) : Prop :=
  ∃ G, pd_LE pa wp ws sh vi en la ga we L G ∧ tn = nI (pd_ord pa L).length ∧ pd_sg tr 0 (pd_ord pa L) ∧ ∀ w, (w = 0 ∨ w ∈ L) → pd_DA G se ab pl sz cs ce w
/-- all but what settle() works out -/
def pd_Mid (L : List Nat) (rk : Nat → Nat) (u : SX) (v : SY) : Prop := match u with
  | (f_stacked, f_treeSize, f_over, f_pressed, f_focus, f_waiting, f_noteCount, a_there, a_parents, a_kinds, a_colours, a_weights, a_gaps, a_layouts, a_values, a_effects, a_targets, a_visible, a_enabled, a_on, a_wishedPlaces, a_wishedSizes, a_shifts, a_stack, a_tree, a_seen, a_able, a_places, a_sizes, a_clipStarts, a_clipEnds, a_eventKinds, a_eventXs, a_eventYs, a_notes, a_pixels) => ∃ (g_many g_waiting g_acted : Int32) (b_kids b_kidCount b_left b_top b_width b_height b_order b_stack b_events : Nat → Int32), v = (g_many, g_waiting, f_noteCount, f_over, f_pressed, f_focus, g_acted, a_there, a_kinds, (fun j => a_wishedPlaces (2 * j)), (fun j => a_wishedPlaces (2 * j + 1)), (fun j => a_wishedSizes (2 * j)), (fun j => a_wishedSizes (2 * j + 1)), a_colours, a_layouts, a_gaps, a_weights, (fun j => a_shifts (2 * j)), (fun j => a_shifts (2 * j + 1)), a_visible, a_enabled, a_on, a_values, a_parents, a_effects, a_targets, b_kids, b_kidCount, b_left, b_top, b_width, b_height, b_order, b_stack, a_pixels, b_events, a_notes) ∧
      pd_BI a_there a_parents L rk ∧ pd_ST f_stacked a_stack L ∧ pd_KD a_parents b_kidCount b_kids L ∧
      pd_VA a_wishedPlaces a_wishedSizes a_weights a_layouts a_targets a_shifts ∧ pd_SP L f_over ∧ pd_SP L f_pressed ∧ pd_SP L f_focus ∧
      pd_QU f_waiting g_waiting a_eventKinds a_eventXs a_eventYs b_events
def pd_DX (L : List Nat) (u : SX) : Prop := match u with
  | (f_stacked, f_treeSize, f_over, f_pressed, f_focus, f_waiting, f_noteCount, a_there, a_parents, a_kinds, a_colours, a_weights, a_gaps, a_layouts, a_values, a_effects, a_targets, a_visible, a_enabled, a_on, a_wishedPlaces, a_wishedSizes, a_shifts, a_stack, a_tree, a_seen, a_able, a_places, a_sizes, a_clipStarts, a_clipEnds, a_eventKinds, a_eventXs, a_eventYs, a_notes, a_pixels) => pd_DE a_parents a_wishedPlaces a_wishedSizes a_shifts a_visible a_enabled a_layouts a_gaps a_weights L f_treeSize a_tree a_seen a_able a_places a_sizes a_clipStarts a_clipEnds
def i_Rel (_ : Nat) (u : SX) (v : SY) : Prop := ∃ L rk, pd_Mid L rk u v ∧ pd_DX L u
theorem i_up {k : Nat} {u : SX} {v : SY} (h : i_Rel k u v) : i_Rel (k + 8) u v := h
theorem pd_SPin {L : List Nat} {rk : Nat → Nat} {th pa : Nat → Int32} (H : pd_BI th pa L rk) {x : Int32} (h : pd_SP L x) (hx : ¬ x = -1) : ∃ w, w < 12 ∧ (w = 0 ∨ w ∈ L) ∧ x = nI w := by
  cases h with
  | inl e => exact absurd e hx
  | inr e =>
    obtain ⟨w, hw, ew⟩ := e
    exact ⟨w, pd_12lt H.2.1 hw, hw, ew⟩
/-- an index that is a widget's -/
theorem pd_isx {x : Int32} (h0 : 0 ≤ x) (h1 : x < 12) : ∃ w, w < 12 ∧ x = nI w := by
  obtain ⟨j, hj, rfl⟩ := nI_of (x := x) (Int32.not_lt.mpr h0)
  refine ⟨j, ?_, rfl⟩
  rw [show (12 : Int32) = nI 12 from rfl, nI_ltI hj (by omega)] at h1
  exact h1
/-! L: a write that writes the content's value keeps what agrees with it -/
def pd_Mo (f f' g : Nat → Int32) : Prop := ∀ j, f j = g j → f' j = g j
theorem pd_Mo_r (f g : Nat → Int32) : pd_Mo f f g := fun _ h => h
theorem pd_Mo_t {f f' f'' g : Nat → Int32} (h : pd_Mo f f' g) (h' : pd_Mo f' f'' g) : pd_Mo f f'' g := fun j e => h' j (h j e)
theorem pd_Mo_u {f g : Nat → Int32} {k : Nat} {x : Int32} (h : x = g k) : pd_Mo f (upd f k x) g := by
  intro j e
  by_cases z : j = k
  · subst z; rw [pd_us, h]
  · rw [pd_un z, e]
def pd_cP (G : Nat → pd_V) : Nat → Int32 := fun j => (G (j / 2)).1 (j % 2)
def pd_cS (G : Nat → pd_V) : Nat → Int32 := fun j => (G (j / 2)).2.1 (j % 2)
def pd_cC (G : Nat → pd_V) : Nat → Int32 := fun j => (G (j / 2)).2.2.2.2.1 (j % 2)
def pd_cE (G : Nat → pd_V) : Nat → Int32 := fun j => (G (j / 2)).2.2.2.2.2 (j % 2)
theorem pd_h2 {c a : Nat} (ha : a < 2) : (2 * c + a) / 2 = c ∧ (2 * c + a) % 2 = a := by omega
theorem pd_cPa (G : Nat → pd_V) {c a : Nat} (ha : a < 2) : pd_cP G (2 * c + a) = (G c).1 a := by
  unfold pd_cP; rw [(pd_h2 ha).1, (pd_h2 ha).2]
theorem pd_cSa (G : Nat → pd_V) {c a : Nat} (ha : a < 2) : pd_cS G (2 * c + a) = (G c).2.1 a := by
  unfold pd_cS; rw [(pd_h2 ha).1, (pd_h2 ha).2]
theorem pd_cCa (G : Nat → pd_V) {c a : Nat} (ha : a < 2) : pd_cC G (2 * c + a) = (G c).2.2.2.2.1 a := by
  unfold pd_cC; rw [(pd_h2 ha).1, (pd_h2 ha).2]
theorem pd_cEa (G : Nat → pd_V) {c a : Nat} (ha : a < 2) : pd_cE G (2 * c + a) = (G c).2.2.2.2.2 a := by
  unfold pd_cE; rw [(pd_h2 ha).1, (pd_h2 ha).2]
/-- place and size of c agree -/
def pd_PA (G : Nat → pd_V) (pl sz : Nat → Int32) (c : Nat) : Prop := ∀ a, a < 2 → pl (2 * c + a) = (G c).1 a ∧ sz (2 * c + a) = (G c).2.1 a
/-- what inherit() works out agrees -/
def pd_CA (G : Nat → pd_V) (se ab cs ce : Nat → Int32) (w : Nat) : Prop := se w = (G w).2.2.1 ∧ ab w = (G w).2.2.2.1 ∧ ∀ a, a < 2 → cs (2 * w + a) = (G w).2.2.2.2.1 a ∧ ce (2 * w + a) = (G w).2.2.2.2.2 a
theorem pd_PAm {G : Nat → pd_V} {pl sz pl' sz' : Nat → Int32} (hp : pd_Mo pl pl' (pd_cP G)) (hs : pd_Mo sz sz' (pd_cS G)) {c : Nat} (h : pd_PA G pl sz c) : pd_PA G pl' sz' c := fun a ha =>
  ⟨(hp _ ((h a ha).1.trans (pd_cPa G ha).symm)).trans (pd_cPa G ha), (hs _ ((h a ha).2.trans (pd_cSa G ha).symm)).trans (pd_cSa G ha)⟩
theorem pd_DApc {G : Nat → pd_V} {se ab pl sz cs ce : Nat → Int32} {w : Nat} (h1 : pd_PA G pl sz w) (h2 : pd_CA G se ab cs ce w) : pd_DA G se ab pl sz cs ce w :=
  ⟨fun a ha => ⟨(h1 a ha).1, (h1 a ha).2, (h2.2.2 a ha).1, (h2.2.2 a ha).2⟩, h2.1, h2.2.1⟩
end PDE
