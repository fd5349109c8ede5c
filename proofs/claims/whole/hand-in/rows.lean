section
/-! numbers (pk_ rows as the kit gives them for pasting), cells that are 0 or 1, zones as sets of points -/
theorem pk_us {f : Nat → Int32} {k : Nat} {x : Int32} : upd f k x k = x := if_pos rfl
theorem pk_un {f : Nat → Int32} {k j : Nat} {x : Int32} (h : j ≠ k) : upd f k x j = f j := if_neg h
theorem pk_sub {a b : Nat} (h : b ≤ a) : nI a - nI b = nI (a - b) := by
  obtain ⟨c, rfl⟩ : ∃ c, a = c + b := ⟨a - b, by omega⟩
  rw [← nI_add, Int32.add_sub_cancel, Nat.add_sub_cancel]
theorem pk_m1 (n : Nat) : nI (n + 1) + (-1) = nI n := by
  rw [← nI_1, Int32.add_assoc, show (1 : Int32) + (-1) = 0 from rfl, Int32.add_zero]
theorem pk_mul (a b : Nat) : nI a * nI b = nI (a * b) := (Int32.ofNat_mul a b).symm
theorem pk_div {a d : Nat} (ha : a < 2 ^ 31) (h0 : 0 < d) (hd : d < 2 ^ 31) : nI a / nI d = nI (a / d) := by
  apply Int32.toInt_inj.mp
  rw [lg_idiv_nonneg (by rw [nI_toInt ha]; omega) (by rw [nI_toInt hd]; omega), nI_toInt ha, nI_toInt hd, nI_toInt (Nat.lt_of_le_of_lt (Nat.div_le_self a d) ha)]
  first | rfl | exact (Int.natCast_ediv _ _).symm
theorem pk_rem {a d : Nat} (ha : a < 2 ^ 31) (h0 : 0 < d) (hd : d < 2 ^ 31) : nI a - nI a / nI d * nI d = nI (a % d) := by
  rw [pk_div ha h0 hd, pk_mul, pk_sub (Nat.div_mul_le_self a d)]
  exact congrArg nI (by have := Nat.div_add_mod' a d; omega)
theorem pk_sub_toInt {a b : Nat} (ha : a < 2 ^ 30) (hb : b < 2 ^ 30) : (nI a - nI b).toInt = (a : Int) - b := by
  rw [Int32.toInt_sub, nI_toInt (by omega), nI_toInt (by omega)]
  exact Int.bmod_eq_of_le (by omega) (by omega)
theorem pk_le {x y : Int32} {A B : Prop} (a b : Nat) (f : a ≤ b → A) (g : b < a → B) (hx : x = nI a := by rfl) (hy : y = nI b := by rfl) (ha : a < 2 ^ 31 := by omega) (hb : b < 2 ^ 31 := by omega) : (x ≤ y → A) ∧ (¬ x ≤ y → B) := by
  subst hx hy
  rw [nI_leI ha hb]
  exact ⟨f, fun z => g (by omega)⟩
theorem pk_lt {x y : Int32} {A B : Prop} (a b : Nat) (f : a < b → A) (g : b ≤ a → B) (hx : x = nI a := by rfl) (hy : y = nI b := by rfl) (ha : a < 2 ^ 31 := by omega) (hb : b < 2 ^ 31 := by omega) : (x < y → A) ∧ (¬ x < y → B) := by
  subst hx hy
  rw [nI_ltI ha hb]
  exact ⟨f, fun z => g (by omega)⟩
theorem pk_eq {x y : Int32} {A B : Prop} (a b : Nat) (f : a = b → A) (g : a ≠ b → B) (hx : x = nI a := by rfl) (hy : y = nI b := by rfl) (ha : a < 2 ^ 31 := by omega) (hb : b < 2 ^ 31 := by omega) : (x = y → A) ∧ (¬ x = y → B) := by
  subst hx hy
  rw [nI_eq ha hb]
  exact ⟨f, g⟩
theorem pk_in {x : Int32} (n N : Nat) (h : n < N) (hx : x = nI n := by rfl) (hN : N < 2 ^ 31 := by omega) : vp_in x N := by
  subst hx
  exact vp_in_nI h hN
theorem pk_cl {x : Int32} (n : Nat) (hx : x = nI n := by rfl) (h : n < 2 ^ 31 := by omega) : x.toNatClampNeg = n := by
  subst hx
  exact nI_clamp h
theorem pk_ix (x : Int32) {n : Nat} (hn : n < 2 ^ 31) : x < 0 ∨ nI n ≤ x ∨ ∃ j : Nat, j < n ∧ x = nI j := by
  by_cases h : x < 0
  · exact Or.inl h
  · obtain ⟨j, hj, rfl⟩ := nI_of h
    by_cases h2 : j < n
    · exact Or.inr (Or.inr ⟨j, h2, rfl⟩)
    · exact Or.inr (Or.inl (nI_le (by omega) hj))

theorem zd_b0 : vp_nar .boolean 0 = 0 := by decide
theorem zd_b1 : vp_nar .boolean 1 = 1 := by decide
/-- x is 1 if P holds, 0 if not -/
def zd_c (x : Int32) (P : Prop) : Prop := (x = 1 ∧ P) ∨ (x = 0 ∧ ¬ P)
theorem zd_c0 {x : Int32} {P : Prop} (h : zd_c x P) : x = 0 ↔ ¬ P := by
  rcases h with ⟨h, hp⟩ | ⟨h, hp⟩
  · subst h
    exact ⟨fun z => absurd z (by decide), fun z => absurd hp z⟩
  · exact ⟨fun _ => hp, fun _ => h⟩
theorem zd_cn0 {x : Int32} {P : Prop} (h : zd_c x P) : ¬ x = 0 ↔ P := by
  rw [zd_c0 h]
  exact Classical.not_not
theorem zd_c01 {x : Int32} {P : Prop} (h : zd_c x P) : x = 0 ∨ x = 1 := by
  rcases h with ⟨h, _⟩ | ⟨h, _⟩
  · exact Or.inr h
  · exact Or.inl h
theorem zd_ceq {x y : Int32} {P : Prop} (h : zd_c x P) (h' : zd_c y P) : x = y := by
  rcases h with ⟨h, hp⟩ | ⟨h, hp⟩ <;> rcases h' with ⟨h', hp'⟩ | ⟨h', hp'⟩
  · rw [h, h']
  · exact absurd hp hp'
  · exact absurd hp' hp
  · rw [h, h']
theorem zd_cif {x : Int32} {P Q : Prop} (h : zd_c x P) (e : P ↔ Q) : zd_c x Q := by
  unfold zd_c at h ⊢
  rw [← e]
  exact h
theorem zd_cof {x : Int32} (h : x = 0 ∨ x = 1) : zd_c x (¬ x = 0) := by
  rcases h with h | h
  · exact Or.inr ⟨h, fun z => z h⟩
  · exact Or.inl ⟨h, by rw [h]; decide⟩
theorem zd_ct {P : Prop} (h : P) : zd_c 1 P := Or.inl ⟨rfl, h⟩
theorem zd_cf {P : Prop} (h : ¬ P) : zd_c 0 P := Or.inr ⟨rfl, h⟩
theorem zd_nar {x : Int32} (h : x = 0 ∨ x = 1) : vp_nar .boolean x = x := by
  rcases h with h | h <;> subst h
  · exact zd_b0
  · exact zd_b1
/-- every mark is 0 or 1 -/
def zd_01 (m : Nat → Int32) : Prop := ∀ j, m j = 0 ∨ m j = 1
/-- A is m, but that zone z's points are S -/
def zd_Z (m : Nat → Int32) (z : Nat) (S : Nat → Prop) (A : Nat → Int32) : Prop :=
  (∀ j, (j < 1000 * z ∨ 1000 * z + 1000 ≤ j) → A j = m j) ∧ ∀ p, p < 1000 → zd_c (A (1000 * z + p)) (S p)
/-- the first thousand cells of A hold the set S -/
def zd_M (S : Nat → Prop) (A : Nat → Int32) : Prop := ∀ p, p < 1000 → zd_c (A p) (S p)
theorem zd_Zu {m A B : Nat → Int32} {z : Nat} {S : Nat → Prop} (h : zd_Z m z S A) (h' : zd_Z m z S B) : A = B := by
  funext j
  by_cases hj : j < 1000 * z ∨ 1000 * z + 1000 ≤ j
  · rw [h.1 j hj, h'.1 j hj]
  · obtain ⟨p, hp, rfl⟩ : ∃ p, p < 1000 ∧ j = 1000 * z + p := ⟨j - 1000 * z, by omega, by omega⟩
    exact zd_ceq (h.2 p hp) (h'.2 p hp)
theorem zd_Z01 {m A : Nat → Int32} {z : Nat} {S : Nat → Prop} (h : zd_Z m z S A) (h0 : zd_01 m) : zd_01 A := by
  intro j
  by_cases hj : j < 1000 * z ∨ 1000 * z + 1000 ≤ j
  · rw [h.1 j hj]
    exact h0 j
  · obtain ⟨p, hp, rfl⟩ : ∃ p, p < 1000 ∧ j = 1000 * z + p := ⟨j - 1000 * z, by omega, by omega⟩
    exact zd_c01 (h.2 p hp)
theorem zd_Zif {m A : Nat → Int32} {z : Nat} {S T : Nat → Prop} (h : zd_Z m z S A) (e : ∀ p, p < 1000 → (S p ↔ T p)) : zd_Z m z T A :=
  ⟨h.1, fun p hp => zd_cif (h.2 p hp) (e p hp)⟩
theorem zd_Zrf {m : Nat → Int32} {z : Nat} (h0 : zd_01 m) : zd_Z m z (fun p => ¬ m (1000 * z + p) = 0) m :=
  ⟨fun _ _ => rfl, fun _ _ => zd_cof (h0 _)⟩
theorem zd_Zst {m A : Nat → Int32} {z q : Nat} {S T : Nat → Prop} {v : Int32} (h : zd_Z m z S A) (hq : q < 1000) (hv : zd_c v (T q)) (e : ∀ r, r < 1000 → r ≠ q → (S r ↔ T r)) : zd_Z m z T (upd A (1000 * z + q) v) := by
  refine ⟨fun j hj => ?_, fun r hr => ?_⟩
  · rw [pk_un (by omega)]
    exact h.1 j hj
  · by_cases hrq : r = q
    · subst hrq
      rw [pk_us]
      exact hv
    · rw [pk_un (by omega)]
      exact zd_cif (h.2 r hr) (e r hr hrq)
theorem zd_Mif {A : Nat → Int32} {S T : Nat → Prop} (h : zd_M S A) (e : ∀ p, p < 1000 → (S p ↔ T p)) : zd_M T A :=
  fun p hp => zd_cif (h p hp) (e p hp)
theorem zd_Mst {A : Nat → Int32} {q : Nat} {S T : Nat → Prop} {v : Int32} (h : zd_M S A) (hv : zd_c v (T q)) (e : ∀ r, r < 1000 → r ≠ q → (S r ↔ T r)) : zd_M T (upd A q v) := by
  intro r hr
  by_cases hrq : r = q
  · subst hrq
    rw [pk_us]
    exact hv
  · rw [pk_un hrq]
    exact zd_cif (h r hr) (e r hr hrq)
/-- a read of zone y's point p while zone z is being changed and its own point p is still as it was -/
theorem zd_Zrd {m A : Nat → Int32} {z y p : Nat} {S : Nat → Prop} (h : zd_Z m z S A) (h0 : zd_01 m) (hp : p < 1000) (e : y = z → (S p ↔ ¬ m (1000 * z + p) = 0)) : A (1000 * y + p) = m (1000 * y + p) := by
  by_cases hy : y = z
  · subst hy
    exact zd_ceq (zd_cif (h.2 p hp) (e rfl)) (zd_cof (h0 _))
  · exact h.1 _ (by omega)

theorem zd_xX (z p : Nat) : nI z * 1000 + nI p = nI (1000 * z + p) := by
  show nI z * nI 1000 + nI p = _
  rw [pk_mul, nI_add, Nat.mul_comm]
theorem zd_xY (z p : Nat) : 1000 * nI z + nI p = nI (1000 * z + p) := by
  show nI 1000 * nI z + nI p = _
  rw [pk_mul, nI_add]
theorem zd_in {z p : Nat} (hz : z < 4) (hp : p < 1000) : vp_in (nI (1000 * z + p)) 4000 := vp_in_nI (by omega) (by decide)
theorem zd_cl {z p : Nat} (hz : z < 4) (hp : p < 1000) : (nI (1000 * z + p)).toNatClampNeg = 1000 * z + p := nI_clamp (by omega)
theorem zd_inX {z p : Nat} (hz : z < 4) (hp : p < 1000) : vp_in (nI z * 1000 + nI p) 4000 := by rw [zd_xX]; exact zd_in hz hp
theorem zd_inY {z p : Nat} (hz : z < 4) (hp : p < 1000) : vp_in (1000 * nI z + nI p) 4000 := by rw [zd_xY]; exact zd_in hz hp
theorem zd_clX {z p : Nat} (hz : z < 4) (hp : p < 1000) : (nI z * 1000 + nI p).toNatClampNeg = 1000 * z + p := by rw [zd_xX]; exact zd_cl hz hp
theorem zd_clY {z p : Nat} (hz : z < 4) (hp : p < 1000) : (1000 * nI z + nI p).toNatClampNeg = 1000 * z + p := by rw [zd_xY]; exact zd_cl hz hp
theorem zd_m1000 {p : Nat} (hp : p < 1000) : ¬ (1000 : Int32) ≤ nI p := nI_ge (b := 1000) hp (by decide)
theorem zd_e1000 : (1000 : Int32) ≤ nI 1000 := nI_le (a := 1000) (b := 1000) (by omega) (by decide)
end
section
/-! the points' digits, differences, rising, what a coordinate is set to; scans -/
/-- xi of point p -/
def zd_co (i p : Nat) : Nat := if i = 1 then p % 10 else if i = 2 then p / 10 % 10 else if i = 3 then p / 100 else 0
theorem zd_co0 (p : Nat) : zd_co 0 p = 0 := rfl
theorem zd_co1 (p : Nat) : zd_co 1 p = p % 10 := rfl
theorem zd_co2 (p : Nat) : zd_co 2 p = p / 10 % 10 := rfl
theorem zd_co3 (p : Nat) : zd_co 3 p = p / 100 := rfl
theorem zd_co9 {i p : Nat} (hp : p < 1000) : zd_co i p ≤ 9 := by
  unfold zd_co
  split
  · omega
  · split
    · omega
    · split <;> omega
/-- xi - xj of point p as the program has it -/
def zd_D (r p : Nat) : Int32 := nI (zd_co (r / 4) p) - nI (zd_co (r % 4) p)
/-- x1, x2, x3 can all grow by d -/
def zd_ri (d p : Nat) : Prop := p % 10 + d ≤ 9 ∧ p / 10 % 10 + d ≤ 9 ∧ p / 100 + d ≤ 9
theorem zd_ri0 {p : Nat} (hp : p < 1000) : zd_ri 0 p := by
  unfold zd_ri
  omega
theorem zd_dig {p t : Nat} (h : zd_ri t p) : (p + 111 * t) % 10 = p % 10 + t ∧ (p + 111 * t) / 10 % 10 = p / 10 % 10 + t ∧ (p + 111 * t) / 100 = p / 100 + t := by
  obtain ⟨h1, h2, h3⟩ := h
  obtain ⟨a, b, c, ha, hb, hp⟩ : ∃ a b c, a < 10 ∧ b < 10 ∧ p = 100 * c + 10 * b + a := ⟨p % 10, p / 10 % 10, p / 100, by omega, by omega, by omega⟩
  have e1 : p % 10 = a := by omega
  have e2 : p / 10 % 10 = b := by omega
  have e3 : p / 100 = c := by omega
  rw [e1] at h1 ⊢
  rw [e2] at h2 ⊢
  rw [e3] at h3 ⊢
  have g : p + 111 * t = 100 * (c + t) + 10 * (b + t) + (a + t) := by omega
  rw [g]
  clear e1 e2 e3 hp g
  have g2 : (100 * (c + t) + 10 * (b + t) + (a + t)) / 10 = 10 * (c + t) + (b + t) := by omega
  rw [g2]
  clear g2
  refine ⟨by omega, by omega, by omega⟩
theorem zd_ri_lt {p t : Nat} (h : zd_ri t p) : p + 111 * t < 1000 := by
  have := zd_dig h
  have := h.2.2
  omega
theorem zd_ri_le {p s t : Nat} (h : zd_ri t p) (hs : s ≤ t) : zd_ri s p := by
  unfold zd_ri at h ⊢
  omega
theorem zd_ri_1 {p t : Nat} (h : zd_ri t p) : zd_ri 1 (p + 111 * t) ↔ zd_ri (t + 1) p := by
  have e := zd_dig h
  unfold zd_ri
  rw [e.1, e.2.1, e.2.2]
  omega
/-- q is p after some time -/
def zd_re (p q : Nat) : Prop := ∃ t, q = p + 111 * t ∧ zd_ri t p
theorem zd_re0 {p : Nat} (hp : p < 1000) : zd_re p p := ⟨0, by omega, zd_ri0 hp⟩
theorem zd_re_lt {p q : Nat} (h : zd_re p q) : p ≤ q ∧ q < 1000 := by
  obtain ⟨t, rfl, h⟩ := h
  exact ⟨by omega, zd_ri_lt h⟩
theorem zd_re_s {p q : Nat} (h : zd_re p q) (h1 : zd_ri 1 q) : zd_re p (q + 111) := by
  obtain ⟨t, rfl, h⟩ := h
  exact ⟨t + 1, by omega, (zd_ri_1 h).mp h1⟩
theorem zd_re_i {p q : Nat} (h : zd_re p q) : p = q ∨ ∃ r, q = r + 111 ∧ zd_ri 1 r ∧ zd_re p r := by
  obtain ⟨t, rfl, h⟩ := h
  cases t with
  | zero => exact Or.inl (by omega)
  | succ t => exact Or.inr ⟨p + 111 * t, by omega, (zd_ri_1 (zd_ri_le h (by omega))).mpr h, t, rfl, zd_ri_le h (by omega)⟩
theorem zd_ri_f {p t : Nat} (h : zd_ri 1 p) : zd_ri t (p + 111) ↔ zd_ri (t + 1) p := by
  have e := zd_dig h
  unfold zd_ri
  rw [show p + 111 = p + 111 * 1 by omega, e.1, e.2.1, e.2.2]
  omega
theorem zd_re_f {p q : Nat} (h1 : zd_ri 1 p) (h : zd_re (p + 111) q) : zd_re p q := by
  obtain ⟨t, rfl, h⟩ := h
  exact ⟨t + 1, by omega, (zd_ri_f h1).mp h⟩
theorem zd_re_fi {p q : Nat} (h : zd_re p q) : p = q ∨ (zd_ri 1 p ∧ zd_re (p + 111) q) := by
  obtain ⟨t, rfl, h⟩ := h
  cases t with
  | zero => exact Or.inl (by omega)
  | succ t =>
    have h1 : zd_ri 1 p := zd_ri_le h (by omega)
    exact Or.inr ⟨h1, t, by omega, (zd_ri_f h1).mpr h⟩
/-- what delay makes of f -/
def zd_U (f : Nat → Prop) (q : Nat) : Prop := ∃ p, p < 1000 ∧ f p ∧ zd_re p q
/-- what past makes of f -/
def zd_V (f : Nat → Prop) (q : Nat) : Prop := ∃ p, p < 1000 ∧ f p ∧ zd_re q p
theorem zd_Ueq {f : Nat → Prop} {q : Nat} (hq : q < 1000) : zd_U f q ↔ f q ∨ ∃ r, q = r + 111 ∧ zd_ri 1 r ∧ zd_U f r := by
  constructor
  · rintro ⟨p, hp, hf, h⟩
    rcases zd_re_i h with rfl | ⟨r, e, h1, h2⟩
    · exact Or.inl hf
    · exact Or.inr ⟨r, e, h1, p, hp, hf, h2⟩
  · rintro (hf | ⟨r, rfl, h1, p, hp, hf, h2⟩)
    · exact ⟨q, hq, hf, zd_re0 hq⟩
    · exact ⟨p, hp, hf, zd_re_s h2 h1⟩
theorem zd_Veq {f : Nat → Prop} {q : Nat} (hq : q < 1000) : zd_V f q ↔ f q ∨ (zd_ri 1 q ∧ zd_V f (q + 111)) := by
  constructor
  · rintro ⟨p, hp, hf, h⟩
    rcases zd_re_fi h with rfl | ⟨h1, h2⟩
    · exact Or.inl hf
    · exact Or.inr ⟨h1, p, hp, hf, h2⟩
  · rintro (hf | ⟨h1, p, hp, hf, h2⟩)
    · exact ⟨q, hq, hf, zd_re0 hq⟩
    · exact ⟨p, hp, hf, zd_re_f h1 h2⟩
theorem zd_ri_888 {p : Nat} (h : zd_ri 1 p) : p ≤ 888 := by
  unfold zd_ri at h
  omega
/-- what a point's number grows by when xi grows by 1 -/
def zd_w (i : Nat) : Nat := if i = 1 then 1 else if i = 2 then 10 else 100
/-- p with xi set to c -/
def zd_wi (p i c : Nat) : Nat := p + c * zd_w i - zd_co i p * zd_w i
theorem zd_i3 {P : Nat → Prop} (h1 : P 1) (h2 : P 2) (h3 : P 3) {i : Nat} (ha : 1 ≤ i) (hb : i ≤ 3) : P i := by
  rcases (by omega : i = 1 ∨ i = 2 ∨ i = 3) with rfl | rfl | rfl
  · exact h1
  · exact h2
  · exact h3
theorem zd_wi1 (p c : Nat) : zd_wi p 1 c = p + c * 1 - p % 10 * 1 := rfl
theorem zd_wi2 (p c : Nat) : zd_wi p 2 c = p + c * 10 - p / 10 % 10 * 10 := rfl
theorem zd_wi3 (p c : Nat) : zd_wi p 3 c = p + c * 100 - p / 100 * 100 := rfl
theorem zd_cw {p i : Nat} (ha : 1 ≤ i) (hb : i ≤ 3) : zd_co i p * zd_w i ≤ p := by
  refine zd_i3 (P := fun i => zd_co i p * zd_w i ≤ p) ?_ ?_ ?_ ha hb
  · show p % 10 * 1 ≤ p
    omega
  · show p / 10 % 10 * 10 ≤ p
    omega
  · show p / 100 * 100 ≤ p
    omega
theorem zd_wi_lt {p i c : Nat} (ha : 1 ≤ i) (hb : i ≤ 3) (hp : p < 1000) (hc : c < 10) : zd_wi p i c < 1000 := by
  refine zd_i3 (P := fun i => zd_wi p i c < 1000) ?_ ?_ ?_ ha hb
  · show p + c * 1 - p % 10 * 1 < 1000
    omega
  · show p + c * 10 - p / 10 % 10 * 10 < 1000
    omega
  · show p + c * 100 - p / 100 * 100 < 1000
    omega
theorem zd_wi_co {p i c : Nat} (ha : 1 ≤ i) (hb : i ≤ 3) (hp : p < 1000) (hc : c < 10) : zd_co i (zd_wi p i c) = c := by
  refine zd_i3 (P := fun i => zd_co i (zd_wi p i c) = c) ?_ ?_ ?_ ha hb
  · show (p + c * 1 - p % 10 * 1) % 10 = c
    omega
  · show (p + c * 10 - p / 10 % 10 * 10) / 10 % 10 = c
    omega
  · show (p + c * 100 - p / 100 * 100) / 100 = c
    omega
theorem zd_wi_s {p i : Nat} : zd_wi p i (zd_co i p) = p := by
  unfold zd_wi
  omega
theorem zd_wi_w {p i c d : Nat} (ha : 1 ≤ i) (hb : i ≤ 3) (hp : p < 1000) (hc : c < 10) : zd_wi (zd_wi p i c) i d = zd_wi p i d := by
  have e := zd_wi_co ha hb hp hc
  have e2 := zd_cw (p := p) ha hb
  have e3 := zd_cw (p := zd_wi p i c) ha hb
  rw [e] at e3
  unfold zd_wi at e e3 ⊢
  rw [e]
  generalize zd_co i p * zd_w i = x at *
  generalize c * zd_w i = y at *
  generalize d * zd_w i = v at *
  omega
theorem zd_wi_0 {p i x : Nat} (h : zd_co i p = 0) : zd_wi p i x = p + x * zd_w i := by
  unfold zd_wi
  rw [h]
  omega
/-- what reset makes of f -/
def zd_R (f : Nat → Prop) (i c q : Nat) : Prop := ∃ p, p < 1000 ∧ f p ∧ zd_wi p i c = q
/-- what forget makes of f -/
def zd_F (f : Nat → Prop) (i q : Nat) : Prop := ∃ p, p < 1000 ∧ f p ∧ ∃ c, c < 10 ∧ zd_wi p i c = q
theorem zd_Feq {f : Nat → Prop} {i q : Nat} (ha : 1 ≤ i) (hb : i ≤ 3) (hq : q < 1000) : zd_F f i q ↔ ∃ x, x < 10 ∧ f (zd_wi q i x) := by
  constructor
  · rintro ⟨p, hp, hf, c, hc, rfl⟩
    refine ⟨zd_co i p, Nat.lt_succ_of_le (zd_co9 hp), ?_⟩
    rw [zd_wi_w ha hb hp hc, zd_wi_s]
    exact hf
  · rintro ⟨x, hx, hf⟩
    refine ⟨zd_wi q i x, zd_wi_lt ha hb hq hx, hf, zd_co i q, Nat.lt_succ_of_le (zd_co9 hq), ?_⟩
    rw [zd_wi_w ha hb hq hx, zd_wi_s]
/-- the index of p with xi set to c -/
theorem zd_wiI {a p i c : Nat} (ha : 1 ≤ i) (hb : i ≤ 3) : nI (a + p) + (nI c - nI (zd_co i p)) * nI (zd_w i) = nI (a + zd_wi p i c) := by
  have h := zd_cw (p := p) ha hb
  have e : a + zd_wi p i c + zd_co i p * zd_w i = a + p + c * zd_w i := by
    unfold zd_wi
    omega
  have e2 : nI (a + zd_wi p i c) + nI (zd_co i p) * nI (zd_w i) = nI (a + p) + nI c * nI (zd_w i) := by
    rw [pk_mul, pk_mul, nI_add, nI_add, e]
  have e3 : nI (a + zd_wi p i c) = nI (a + p) + nI c * nI (zd_w i) - nI (zd_co i p) * nI (zd_w i) := by
    rw [← e2, Int32.add_sub_cancel]
  rw [e3]
  grind
/-- the lowest point of zone z from i on, n of them looked at; -2000 if none -/
def zd_lo (m : Nat → Int32) (z : Nat) : Nat → Nat → Int32
  | 0, _ => -2000
  | n + 1, i => if m (1000 * z + i) = 0 then zd_lo m z n (i + 1) else nI i
theorem zd_nne {i : Nat} (h : i < 2 ^ 31) : ¬ nI i = -2000 := by
  intro e
  have h1 := nI_pos (n := i) h
  rw [e] at h1
  exact h1 (by decide)
theorem zd_lo0 {m : Nat → Int32} {z : Nat} : ∀ n i, i + n ≤ 1000 → zd_lo m z n i = -2000 → ∀ p, i ≤ p → p < i + n → m (1000 * z + p) = 0 := by
  intro n
  induction n with
  | zero => intro i _ _ p h1 h2; omega
  | succ n ih =>
    intro i hi h p h1 h2
    unfold zd_lo at h
    by_cases hm : m (1000 * z + i) = 0
    · rw [if_pos hm] at h
      by_cases hp : p = i
      · rw [hp]; exact hm
      · exact ih (i + 1) (by omega) h p (by omega) (by omega)
    · rw [if_neg hm] at h
      exact absurd h (zd_nne (by omega))
/-- 1 if the zone has points -/
def zd_so (m : Nat → Int32) (z n i : Nat) : Int32 := if zd_lo m z n i = -2000 then 0 else 1
/-- the greatest difference of the marked points below n -/
def zd_gr (m : Nat → Int32) (z r : Nat) : Nat → Int32
  | 0 => -2000
  | n + 1 => if m (1000 * z + n) = 0 then zd_gr m z r n else if zd_D r n ≤ zd_gr m z r n then zd_gr m z r n else zd_D r n
theorem zd_gr0 {m : Nat → Int32} {z r : Nat} (h : ∀ p, p < 1000 → m (1000 * z + p) = 0) : ∀ n, n ≤ 1000 → zd_gr m z r n = -2000 := by
  intro n
  induction n with
  | zero => intro _; rfl
  | succ n ih =>
    intro hn
    unfold zd_gr
    rw [if_pos (h n (by omega))]
    exact ih (by omega)
/-- the hull's bound of a pair -/
def zd_hb (m : Nat → Int32) (z y r : Nat) : Int32 := if zd_gr m z r 1000 ≤ zd_gr m y r 1000 then zd_gr m y r 1000 else zd_gr m z r 1000
/-- what hull makes of zones z and y -/
def zd_H (m : Nat → Int32) (z y p : Nat) : Prop := ∀ r, r < 16 → zd_D r p ≤ zd_hb m z y r
theorem zd_H0 {m : Nat → Int32} {z y p : Nat} (hz : zd_lo m z 1000 0 = -2000) (hy : zd_lo m y 1000 0 = -2000) : ¬ zd_H m z y p := by
  intro h
  have h1 := h 0 (by omega)
  have ez : zd_gr m z 0 1000 = -2000 := zd_gr0 (fun p hp => zd_lo0 1000 0 (by omega) hz p (by omega) (by omega)) 1000 (by omega)
  have ey : zd_gr m y 0 1000 = -2000 := zd_gr0 (fun p hp => zd_lo0 1000 0 (by omega) hy p (by omega) (by omega)) 1000 (by omega)
  have hD : zd_D 0 p = 0 := by
    show nI 0 - nI 0 = 0
    decide
  unfold zd_hb at h1
  rw [ez, ey, hD] at h1
  exact absurd h1 (by decide)
/-- how many points below n are marked -/
def zd_cn (m : Nat → Int32) (z : Nat) : Nat → Nat
  | 0 => 0
  | n + 1 => if m (1000 * z + n) = 0 then zd_cn m z n else zd_cn m z n + 1
/-- how many of g's first n cells aren't 0 -/
def zd_cs (g : Nat → Int32) : Nat → Nat
  | 0 => 0
  | n + 1 => if g n = 0 then zd_cs g n else zd_cs g n + 1
theorem zd_cs_if {g h : Nat → Int32} : ∀ n, (∀ d, d < n → (g d = 0 ↔ h d = 0)) → zd_cs g n = zd_cs h n := by
  intro n
  induction n with
  | zero => intro _; rfl
  | succ n ih =>
    intro e
    unfold zd_cs
    rw [ih (fun d hd => e d (by omega))]
    by_cases hg : g n = 0
    · rw [if_pos hg, if_pos ((e n (by omega)).mp hg)]
    · rw [if_neg hg, if_neg (fun z => hg ((e n (by omega)).mpr z))]
theorem zd_cs_up {g : Nat → Int32} {d : Nat} (h0 : g d = 0) : ∀ n, zd_cs (upd g d 1) n = if d < n then zd_cs g n + 1 else zd_cs g n := by
  intro n
  induction n with
  | zero => rfl
  | succ n ih =>
    unfold zd_cs
    rw [ih]
    by_cases hd : d = n
    · subst hd
      rw [pk_us, if_neg (by decide : ¬ (1 : Int32) = 0), if_neg (by omega), if_pos h0, if_pos (by omega)]
    · rw [pk_un (fun z => hd z.symm)]
      by_cases hn : d < n
      · rw [if_pos hn, if_pos (show d < n + 1 by omega)]
        by_cases hg : g n = 0 <;> simp [hg]
      · rw [if_neg hn, if_neg (show ¬ d < n + 1 by omega)]
theorem zd_cs_0 {g : Nat → Int32} : ∀ n, (∀ d, d < n → g d = 0) → zd_cs g n = 0 := by
  intro n
  induction n with
  | zero => intro _; rfl
  | succ n ih =>
    intro h
    unfold zd_cs
    rw [if_pos (h n (by omega))]
    exact ih (fun d hd => h d (by omega))
/-- the difference, from 0 to 18 -/
def zd_d9 (r p : Nat) : Nat := zd_co (r / 4) p + 9 - zd_co (r % 4) p
theorem zd_d9_lt {r p : Nat} (hp : p < 1000) : zd_d9 r p < 19 := by
  have := zd_co9 (i := r / 4) hp
  unfold zd_d9
  omega
theorem zd_d9I {r p : Nat} (hp : p < 1000) : zd_D r p + 9 = nI (zd_d9 r p) := by
  have h := zd_co9 (i := r % 4) hp
  have e : nI (zd_d9 r p) + nI (zd_co (r % 4) p) = nI (zd_co (r / 4) p) + nI 9 := by
    unfold zd_d9
    rw [nI_add, nI_add]
    exact congrArg nI (by omega)
  have e2 : nI (zd_d9 r p) = nI (zd_co (r / 4) p) + nI 9 - nI (zd_co (r % 4) p) := by
    rw [← e, Int32.add_sub_cancel]
  rw [e2]
  unfold zd_D
  show _ + nI 9 = _
  grind
/-- the differences of the marked points below n -/
def zd_S (m : Nat → Int32) (z r n d : Nat) : Prop := ∃ p, p < n ∧ ¬ m (1000 * z + p) = 0 ∧ zd_d9 r p = d
theorem zd_S_s {m : Nat → Int32} {z r n d : Nat} : zd_S m z r (n + 1) d ↔ zd_S m z r n d ∨ (¬ m (1000 * z + n) = 0 ∧ zd_d9 r n = d) := by
  constructor
  · rintro ⟨p, hp, h, e⟩
    by_cases hn : p = n
    · subst hn
      exact Or.inr ⟨h, e⟩
    · exact Or.inl ⟨p, by omega, h, e⟩
  · rintro (⟨p, hp, h, e⟩ | ⟨h, e⟩)
    · exact ⟨p, by omega, h, e⟩
    · exact ⟨n, by omega, h, e⟩
theorem zd_S_0 {m : Nat → Int32} {z r d : Nat} : ¬ zd_S m z r 0 d := fun ⟨_, hp, _⟩ => by omega
end
section
/-! bits of an int (bt, b_, s_ rows as the kit gives them for pasting), for spread -/
def bt (x : Int32) (i : Nat) : Bool := x.toBitVec.getLsbD i
theorem b_ext {x y : Int32} (h : ∀ i, i < 32 → bt x i = bt y i) : x = y := Int32.toBitVec_inj.mp (BitVec.eq_of_getLsbD_eq (fun i hi => h i hi))
theorem b_or (x y : Int32) (i : Nat) : bt (x ||| y) i = (bt x i || bt y i) := by unfold bt; rw [Int32.toBitVec_or, BitVec.getLsbD_or]
theorem b_and (x y : Int32) (i : Nat) : bt (x &&& y) i = (bt x i && bt y i) := by unfold bt; rw [Int32.toBitVec_and, BitVec.getLsbD_and]
theorem b_0 (i : Nat) : bt 0 i = false := BitVec.getLsbD_zero
theorem s_l : ∀ n, n < 32 → ((nI n &&& 31).toBitVec.smod 32).toNat = n := by decide +kernel
theorem b_shl (n : Nat) (hn : n < 32) (x : Int32) {i : Nat} (hi : i < 32) : bt (x <<< (nI n &&& 31)) i = (decide (n ≤ i) && bt x (i - n)) := by
  unfold bt
  rw [Int32.toBitVec_shiftLeft]
  show (x.toBitVec <<< ((nI n &&& 31).toBitVec.smod 32).toNat).getLsbD i = _
  rw [s_l n hn, BitVec.getLsbD_shiftLeft]
  rcases Nat.lt_or_ge i n with h | h
  · simp [h, Nat.not_le.mpr h]
  · simp [hi, h, Nat.not_lt.mpr h]
theorem b_sshr (n : Nat) (hn : n < 32) (x : Int32) {i : Nat} (hi : i < 32) : bt (x >>> (nI n &&& 31)) i = if n + i < 32 then bt x (n + i) else bt x 31 := by
  unfold bt
  rw [Int32.toBitVec_shiftRight]
  show (x.toBitVec.sshiftRight ((nI n &&& 31).toBitVec.smod 32).toNat).getLsbD i = _
  rw [s_l n hn, BitVec.getLsbD_sshiftRight, BitVec.msb_eq_getLsbD_last]
  simp [hi]
theorem zd_bt1 : ∀ i, i < 32 → bt 1 i = decide (i = 0) := by decide +kernel
theorem zd_bt1l {l i : Nat} (hl : l < 32) (hi : i < 32) : bt ((1 : Int32) <<< (nI l &&& 31)) i = decide (i = l) := by
  rw [b_shl l hl 1 hi, zd_bt1 (i - l) (by omega)]
  by_cases h : i = l
  · rw [decide_eq_true (show l ≤ i by omega), decide_eq_true (show i - l = 0 by omega), decide_eq_true h]
    rfl
  · by_cases h2 : l ≤ i
    · rw [decide_eq_false (show ¬ i - l = 0 by omega), decide_eq_false h, Bool.and_false]
    · rw [decide_eq_false h2, decide_eq_false h, Bool.false_and]
theorem zd_btor {s : Int32} {l i : Nat} (hl : l < 32) (hi : i < 32) : bt (s ||| ((1 : Int32) <<< (nI l &&& 31))) i = true ↔ bt s i = true ∨ i = l := by
  rw [b_or, zd_bt1l hl hi, Bool.or_eq_true, decide_eq_true_eq]
theorem zd_bit {s : Int32} {i : Nat} (hi : i < 32) : (s >>> (nI i &&& 31)) &&& 1 = if bt s i = true then 1 else 0 := by
  apply b_ext
  intro j hj
  rw [b_and, b_sshr i hi s hj, zd_bt1 j hj]
  by_cases h : j = 0
  · subst h
    rw [if_pos (by omega), decide_eq_true rfl, Bool.and_true]
    show bt s i = _
    by_cases hb : bt s i = true
    · rw [if_pos hb, hb]
      decide +kernel
    · rw [if_neg hb, b_0]
      exact Bool.eq_false_iff.mpr hb
  · rw [decide_eq_false h, Bool.and_false]
    split
    · rw [zd_bt1 j hj, decide_eq_false h]
    · rw [b_0]
/-- the marks of the bits -/
def zd_bm (s : Int32) (d : Nat) : Int32 := if bt s d = true then 1 else 0
end
section
/-! what one turn of each loop does to the sets, without any walk -/
/-- T below i, f from i on -/
def zd_mix (i : Nat) (T f : Nat → Prop) (p : Nat) : Prop := (p < i ∧ T p) ∨ (i ≤ p ∧ f p)
theorem zd_mix_i {i : Nat} {T f : Nat → Prop} : zd_mix i T f i ↔ f i := by
  unfold zd_mix
  constructor
  · rintro (⟨h, _⟩ | ⟨_, h⟩)
    · omega
    · exact h
  · intro h
    exact Or.inr ⟨Nat.le_refl i, h⟩
theorem zd_mix_n {i r : Nat} {T f : Nat → Prop} (h : r ≠ i) : zd_mix i T f r ↔ zd_mix (i + 1) T f r := by
  unfold zd_mix
  constructor
  · rintro (⟨h1, h2⟩ | ⟨h1, h2⟩)
    · exact Or.inl ⟨by omega, h2⟩
    · exact Or.inr ⟨by omega, h2⟩
  · rintro (⟨h1, h2⟩ | ⟨h1, h2⟩)
    · exact Or.inl ⟨by omega, h2⟩
    · exact Or.inr ⟨by omega, h2⟩
theorem zd_mix_t {i : Nat} {T f : Nat → Prop} : zd_mix (i + 1) T f i ↔ T i := by
  unfold zd_mix
  constructor
  · rintro (⟨_, h⟩ | ⟨h, _⟩)
    · exact h
    · omega
  · intro h
    exact Or.inl ⟨by omega, h⟩
theorem zd_mix_0 {T f : Nat → Prop} {p : Nat} : f p ↔ zd_mix 0 T f p := by
  unfold zd_mix
  constructor
  · intro h
    exact Or.inr ⟨by omega, h⟩
  · rintro (⟨h, _⟩ | ⟨_, h⟩)
    · omega
    · exact h
theorem zd_mix_e {T f : Nat → Prop} {p : Nat} (hp : p < 1000) : zd_mix 1000 T f p ↔ T p := by
  unfold zd_mix
  constructor
  · rintro (⟨_, h⟩ | ⟨h, _⟩)
    · exact h
    · omega
  · intro h
    exact Or.inl ⟨hp, h⟩
section fills
variable {m A : Nat → Int32} {z i : Nat} {T f : Nat → Prop} {v : Int32}
theorem zd_Z0 (h0 : zd_01 m) : zd_Z m z (zd_mix 0 T (fun p => ¬ m (1000 * z + p) = 0)) m := zd_Zif (zd_Zrf h0) (fun _ _ => zd_mix_0 (f := fun p => ¬ m (1000 * z + p) = 0))
theorem zd_Zw (h : zd_Z m z (zd_mix i T f) A) (hi : i < 1000) (hv : zd_c v (T i)) : zd_Z m z (zd_mix (i + 1) T f) (upd A (1000 * z + i) v) :=
  zd_Zst h hi (zd_cif hv zd_mix_t.symm) (fun _ _ hr => zd_mix_n hr)
theorem zd_Zk (h : zd_Z m z (zd_mix i T f) A) (e : T i ↔ f i) : zd_Z m z (zd_mix (i + 1) T f) A :=
  zd_Zif h (fun p _ => by
    by_cases hp : p = i
    · subst hp
      exact zd_mix_i.trans (e.symm.trans zd_mix_t.symm)
    · exact zd_mix_n hp)
theorem zd_Ze (h : zd_Z m z (zd_mix 1000 T f) A) : zd_Z m z T A := zd_Zif h (fun _ hp => zd_mix_e hp)
theorem zd_Zi (h : zd_Z m z (zd_mix i T f) A) (hi : i < 1000) : A (1000 * z + i) = 0 ↔ ¬ f i := by
  rw [zd_c0 (h.2 i hi), zd_mix_i]
theorem zd_M0 (h : zd_M f A) : zd_M (zd_mix 0 T f) A := zd_Mif h (fun _ _ => zd_mix_0)
theorem zd_Mw (h : zd_M (zd_mix i T f) A) (hv : zd_c v (T i)) : zd_M (zd_mix (i + 1) T f) (upd A i v) :=
  zd_Mst h (zd_cif hv zd_mix_t.symm) (fun _ _ hr => zd_mix_n hr)
theorem zd_Me (h : zd_M (zd_mix 1000 T f) A) : zd_M T A := zd_Mif h (fun _ hp => zd_mix_e hp)
theorem zd_Mi (h : zd_M (zd_mix i T f) A) (hi : i < 1000) : A i = 0 ↔ ¬ f i := by
  rw [zd_c0 (h i hi), zd_mix_i]
end fills
/-- the first i cells hold T -/
def zd_Mf (i : Nat) (T : Nat → Prop) (A : Nat → Int32) : Prop := ∀ p, p < i → zd_c (A p) (T p)
theorem zd_Mf0 {T : Nat → Prop} {A : Nat → Int32} : zd_Mf 0 T A := fun _ h => absurd h (by omega)
theorem zd_Mfw {i : Nat} {T : Nat → Prop} {A : Nat → Int32} {v : Int32} (h : zd_Mf i T A) (hv : zd_c v (T i)) : zd_Mf (i + 1) T (upd A i v) := by
  intro p hp
  by_cases hi : p = i
  · subst hi
    rw [pk_us]
    exact hv
  · rw [pk_un hi]
    exact h p (by omega)

/-! delay, in place -/
def zd_dX (i : Nat) (f : Nat → Prop) (q : Nat) : Prop := f q ∨ ∃ r, r < i ∧ q = r + 111 ∧ zd_ri 1 r ∧ zd_U f r
theorem zd_dX0 {f : Nat → Prop} {q : Nat} : f q ↔ zd_dX 0 f q := ⟨Or.inl, fun h => by
  rcases h with h | ⟨r, hr, _⟩
  · exact h
  · omega⟩
theorem zd_dXe {f : Nat → Prop} {q : Nat} (hq : q < 1000) : zd_dX 1000 f q ↔ zd_U f q := by
  rw [zd_Ueq hq]
  unfold zd_dX
  constructor
  · rintro (h | ⟨r, _, h⟩)
    · exact Or.inl h
    · exact Or.inr ⟨r, h⟩
  · rintro (h | ⟨r, e, h⟩)
    · exact Or.inl h
    · exact Or.inr ⟨r, by omega, e, h⟩
theorem zd_dXi {f : Nat → Prop} {i : Nat} (hi : i < 1000) : zd_dX i f i ↔ zd_U f i := by
  rw [zd_Ueq hi]
  unfold zd_dX
  constructor
  · rintro (h | ⟨r, _, h⟩)
    · exact Or.inl h
    · exact Or.inr ⟨r, h⟩
  · rintro (h | ⟨r, e, h⟩)
    · exact Or.inl h
    · exact Or.inr ⟨r, by omega, e, h⟩
theorem zd_dXn {f : Nat → Prop} {i q : Nat} (h : q ≠ i + 111 ∨ ¬ (zd_U f i ∧ zd_ri 1 i)) : zd_dX i f q ↔ zd_dX (i + 1) f q := by
  unfold zd_dX
  constructor
  · rintro (h1 | ⟨r, hr, h1⟩)
    · exact Or.inl h1
    · exact Or.inr ⟨r, by omega, h1⟩
  · rintro (h1 | ⟨r, hr, e, h1, h2⟩)
    · exact Or.inl h1
    · by_cases hri : r = i
      · subst hri
        rcases h with h | h
        · exact absurd e h
        · exact absurd ⟨h2, h1⟩ h
      · exact Or.inr ⟨r, by omega, e, h1, h2⟩
section delays
variable {m A : Nat → Int32} {z i : Nat} {f : Nat → Prop}
theorem zd_dXk (h : zd_Z m z (zd_dX i f) A) (hn : ¬ (zd_U f i ∧ zd_ri 1 i)) : zd_Z m z (zd_dX (i + 1) f) A := zd_Zif h (fun _ _ => zd_dXn (Or.inr hn))
theorem zd_dXw (h : zd_Z m z (zd_dX i f) A) (hu : zd_U f i) (hr : zd_ri 1 i) : zd_Z m z (zd_dX (i + 1) f) (upd A (1000 * z + (i + 111)) 1) :=
  zd_Zst h (zd_ri_lt (t := 1) hr) (zd_ct (Or.inr ⟨i, by omega, rfl, hr, hu⟩)) (fun _ _ hn => zd_dXn (Or.inl hn))
theorem zd_dXr (h : zd_Z m z (zd_dX i f) A) (hi : i < 1000) : ¬ A (1000 * z + i) = 0 ↔ zd_U f i := by
  rw [zd_cn0 (h.2 i hi), zd_dXi hi]
end delays
/-! past, in place, downwards: points from i on are done -/
def zd_pX (i : Nat) (f : Nat → Prop) (q : Nat) : Prop := zd_mix i f (zd_V f) q
theorem zd_pX0 {f : Nat → Prop} {q : Nat} (hq : q < 1000) : f q ↔ zd_pX 889 f q := by
  unfold zd_pX zd_mix
  constructor
  · intro h
    by_cases h2 : q < 889
    · exact Or.inl ⟨h2, h⟩
    · exact Or.inr ⟨by omega, (zd_Veq hq).mpr (Or.inl h)⟩
  · rintro (⟨_, h⟩ | ⟨h2, h⟩)
    · exact h
    · rcases (zd_Veq hq).mp h with h | ⟨h, _⟩
      · exact h
      · have := zd_ri_888 h
        omega
theorem zd_pXe {f : Nat → Prop} {q : Nat} : zd_pX 0 f q ↔ zd_V f q := zd_mix_0.symm
section pasts
variable {m A : Nat → Int32} {z i : Nat} {f : Nat → Prop}
theorem zd_pXk (h : zd_Z m z (zd_pX (i + 1) f) A) (hi : i < 1000) (hn : ¬ (zd_ri 1 i ∧ zd_V f (i + 111))) : zd_Z m z (zd_pX i f) A :=
  zd_Zif h (fun p _ => by
    by_cases hp : p = i
    · subst hp
      refine zd_mix_t.trans (Iff.trans ?_ zd_mix_i.symm)
      rw [zd_Veq hi]
      exact ⟨Or.inl, fun h => h.elim id (fun h => absurd h hn)⟩
    · exact (zd_mix_n hp).symm)
theorem zd_pXw (h : zd_Z m z (zd_pX (i + 1) f) A) (hi : i < 1000) (hr : zd_ri 1 i) (hv : zd_V f (i + 111)) : zd_Z m z (zd_pX i f) (upd A (1000 * z + i) 1) :=
  zd_Zst h hi (zd_ct (zd_mix_i.mpr ((zd_Veq hi).mpr (Or.inr ⟨hr, hv⟩)))) (fun _ _ hn => (zd_mix_n hn).symm)
theorem zd_pXr (h : zd_Z m z (zd_pX (i + 1) f) A) (hr : zd_ri 1 i) : ¬ A (1000 * z + (i + 111)) = 0 ↔ zd_V f (i + 111) := by
  rw [zd_cn0 (h.2 (i + 111) (zd_ri_lt (t := 1) hr))]
  unfold zd_pX zd_mix
  constructor
  · rintro (⟨h, _⟩ | ⟨_, h⟩)
    · omega
    · exact h
  · intro h
    exact Or.inr ⟨by omega, h⟩
end pasts
/-! the reference's move: the walk along a diagonal from p -/
def zd_mY (up : Bool) (p q : Nat) : Prop := if up = true then zd_re p q else zd_re q p
/-- what the reference has made when the points below i are walked -/
def zd_mO (up : Bool) (i : Nat) (f : Nat → Prop) (q : Nat) : Prop := ∃ p, p < i ∧ f p ∧ zd_mY up p q
theorem zd_mO0 {up : Bool} {f : Nat → Prop} {q : Nat} : ¬ zd_mO up 0 f q := fun ⟨_, h, _⟩ => by omega
theorem zd_mOn {up : Bool} {i : Nat} {f : Nat → Prop} {q : Nat} (h : ¬ f i) : zd_mO up i f q ↔ zd_mO up (i + 1) f q := by
  unfold zd_mO
  constructor
  · rintro ⟨p, hp, h1⟩
    exact ⟨p, by omega, h1⟩
  · rintro ⟨p, hp, h1, h2⟩
    refine ⟨p, ?_, h1, h2⟩
    by_cases hpi : p = i
    · subst hpi
      exact absurd h1 h
    · omega
theorem zd_mOs {up : Bool} {i : Nat} {f : Nat → Prop} {q : Nat} (h : f i) : zd_mO up (i + 1) f q ↔ zd_mO up i f q ∨ zd_mY up i q := by
  unfold zd_mO
  constructor
  · rintro ⟨p, hp, h1, h2⟩
    by_cases hpi : p = i
    · subst hpi
      exact Or.inr h2
    · exact Or.inl ⟨p, by omega, h1, h2⟩
  · rintro (⟨p, hp, h1, h2⟩ | h2)
    · exact ⟨p, by omega, h1, h2⟩
    · exact ⟨i, by omega, h, h2⟩
/-- the walk's end, upwards: t steps done, and no further -/
theorem zd_upE {p t q : Nat} (h : zd_ri t p) (hn : ¬ zd_ri 1 (p + 111 * t)) : (∃ s, s < t + 1 ∧ q = p + 111 * s) ↔ zd_re p q := by
  rw [zd_ri_1 h] at hn
  constructor
  · rintro ⟨s, hs, rfl⟩
    exact ⟨s, rfl, zd_ri_le h (by omega)⟩
  · rintro ⟨s, rfl, hs⟩
    refine ⟨s, ?_, rfl⟩
    by_cases hst : s < t + 1
    · exact hst
    · exact absurd (zd_ri_le hs (by omega)) hn
/-- downwards: q is where the walk stands, t steps below p -/
theorem zd_dnE {p t q : Nat} (hq : zd_ri t q) (hp : p = q + 111 * t) (hn : q % 10 = 0 ∨ q / 10 % 10 = 0 ∨ q / 100 = 0) (x : Nat) : (∃ s, s < t + 1 ∧ x + 111 * s = p) ↔ zd_re x p := by
  constructor
  · rintro ⟨s, hs, e⟩
    refine ⟨s, e.symm, ?_⟩
    obtain ⟨d, rfl⟩ : ∃ d, t = d + s := ⟨t - s, by omega⟩
    have hx : x = q + 111 * d := by omega
    have e1 := zd_dig (zd_ri_le hq (show d ≤ d + s by omega))
    unfold zd_ri at hq ⊢
    rw [hx, e1.1, e1.2.1, e1.2.2]
    omega
  · rintro ⟨s, e, hs⟩
    refine ⟨s, ?_, e.symm⟩
    by_cases hst : s < t + 1
    · exact hst
    · exfalso
      obtain ⟨d, rfl⟩ : ∃ d, s = d + 1 + t := ⟨s - t - 1, by omega⟩
      have hx : q = x + 111 * (d + 1) := by omega
      have e1 := zd_dig (zd_ri_le hs (show d + 1 ≤ d + 1 + t by omega))
      rw [hx, e1.1, e1.2.1, e1.2.2] at hn
      omega
/-- one step down -/
theorem zd_dnS {q t : Nat} (hq : zd_ri t q) (h1 : ¬ q % 10 = 0) (h2 : ¬ q / 10 % 10 = 0) (h3 : ¬ q / 100 = 0) : 111 ≤ q ∧ zd_ri (t + 1) (q - 111) := by
  have h : 111 ≤ q := by omega
  refine ⟨h, ?_⟩
  obtain ⟨a, b, c, ha, hb, hp⟩ : ∃ a b c, a < 10 ∧ b < 10 ∧ q = 100 * c + 10 * b + a := ⟨q % 10, q / 10 % 10, q / 100, by omega, by omega, by omega⟩
  have e1 : q % 10 = a := by omega
  have e2 : q / 10 % 10 = b := by omega
  have e3 : q / 100 = c := by omega
  unfold zd_ri at hq ⊢
  rw [e1, e2, e3] at hq
  rw [e1] at h1
  rw [e2] at h2
  rw [e3] at h3
  have g1 : (q - 111) % 10 = a - 1 := by omega
  have g2 : (q - 111) / 10 % 10 = b - 1 := by omega
  have g3 : (q - 111) / 100 = c - 1 := by omega
  rw [g1, g2, g3]
  omega
/-! reset, in place -/
def zd_rX (i c k : Nat) (f : Nat → Prop) (q : Nat) : Prop := (zd_co i q = c ∧ (f q ∨ ∃ p, p < k ∧ f p ∧ zd_wi p i c = q)) ∨ (¬ zd_co i q = c ∧ k ≤ q ∧ f q)
theorem zd_rX0 {i c : Nat} {f : Nat → Prop} {q : Nat} : f q ↔ zd_rX i c 0 f q := by
  unfold zd_rX
  constructor
  · intro h
    by_cases hc : zd_co i q = c
    · exact Or.inl ⟨hc, Or.inl h⟩
    · exact Or.inr ⟨hc, by omega, h⟩
  · rintro (⟨_, h | ⟨p, hp, _⟩⟩ | ⟨_, _, h⟩)
    · exact h
    · omega
    · exact h
theorem zd_rXe {i c : Nat} {f : Nat → Prop} {q : Nat} (ha : 1 ≤ i) (hb : i ≤ 3) (hc : c < 10) (hq : q < 1000) : zd_rX i c 1000 f q ↔ zd_R f i c q := by
  unfold zd_rX zd_R
  constructor
  · rintro (⟨h1, h | ⟨p, hp, h, e⟩⟩ | ⟨_, h, _⟩)
    · refine ⟨q, hq, h, ?_⟩
      rw [← h1]
      exact zd_wi_s
    · exact ⟨p, hp, h, e⟩
    · omega
  · rintro ⟨p, hp, h, rfl⟩
    exact Or.inl ⟨zd_wi_co ha hb hp hc, Or.inr ⟨p, hp, h, rfl⟩⟩
theorem zd_rXi {i c k : Nat} {f : Nat → Prop} (h : ¬ zd_co i k = c) : zd_rX i c k f k ↔ f k := by
  unfold zd_rX
  constructor
  · rintro (⟨h1, _⟩ | ⟨_, _, h⟩)
    · exact absurd h1 h
    · exact h
  · intro h1
    exact Or.inr ⟨h, Nat.le_refl k, h1⟩
/-- nothing to move: it has c, or it is no point of the zone -/
theorem zd_rXn {i c k : Nat} {f : Nat → Prop} {q : Nat} (h : zd_co i k = c ∨ ¬ f k) : zd_rX i c k f q ↔ zd_rX i c (k + 1) f q := by
  unfold zd_rX
  constructor
  · rintro (⟨h1, h2 | ⟨p, hp, h2⟩⟩ | ⟨h1, h2, h3⟩)
    · exact Or.inl ⟨h1, Or.inl h2⟩
    · exact Or.inl ⟨h1, Or.inr ⟨p, by omega, h2⟩⟩
    · refine Or.inr ⟨h1, ?_, h3⟩
      by_cases hk : k = q
      · subst hk
        rcases h with h | h
        · exact absurd h h1
        · exact absurd h3 h
      · omega
  · rintro (⟨h1, h2 | ⟨p, hp, h2, h3⟩⟩ | ⟨h1, h2, h3⟩)
    · exact Or.inl ⟨h1, Or.inl h2⟩
    · by_cases hk : p = k
      · subst hk
        rcases h with h | h
        · subst h
          rw [zd_wi_s] at h3
          subst h3
          exact Or.inl ⟨h1, Or.inl h2⟩
        · exact absurd h2 h
      · exact Or.inl ⟨h1, Or.inr ⟨p, by omega, h2, h3⟩⟩
    · exact Or.inr ⟨h1, by omega, h3⟩
section resets
variable {m A : Nat → Int32} {z i c k : Nat} {f : Nat → Prop}
theorem zd_rXk (h : zd_Z m z (zd_rX i c k f) A) (hn : zd_co i k = c ∨ ¬ f k) : zd_Z m z (zd_rX i c (k + 1) f) A := zd_Zif h (fun _ _ => zd_rXn hn)
theorem zd_rXw (ha : 1 ≤ i) (hb : i ≤ 3) (hc : c < 10) (hk : k < 1000) (h : zd_Z m z (zd_rX i c k f) A) (hn : ¬ zd_co i k = c) (hf : f k) : zd_Z m z (zd_rX i c (k + 1) f) (upd (upd A (1000 * z + k) 0) (1000 * z + zd_wi k i c) 1) := by
  have e := zd_wi_co ha hb hk hc
  have l := zd_wi_lt ha hb hk hc
  refine zd_Zst (S := fun q => q ≠ k ∧ zd_rX i c k f q) ?_ l (zd_ct (Or.inl ⟨e, Or.inr ⟨k, by omega, hf, rfl⟩⟩)) (fun q hq hne => ?_)
  · refine zd_Zst h hk (zd_cf (fun h => h.1 rfl)) (fun r _ hr => ⟨fun h => ⟨hr, h⟩, fun h => h.2⟩)
  · unfold zd_rX
    constructor
    · rintro ⟨hqk, ⟨h1, h2 | ⟨p, hp, h2⟩⟩ | ⟨h1, h2, h3⟩⟩
      · exact Or.inl ⟨h1, Or.inl h2⟩
      · exact Or.inl ⟨h1, Or.inr ⟨p, by omega, h2⟩⟩
      · exact Or.inr ⟨h1, by omega, h3⟩
    · rintro (⟨h1, h2⟩ | ⟨h1, h2, h3⟩)
      · refine ⟨fun z => hn (by rw [← z]; exact h1), Or.inl ⟨h1, ?_⟩⟩
        rcases h2 with h2 | ⟨p, hp, h2, h3⟩
        · exact Or.inl h2
        · refine Or.inr ⟨p, ?_, h2, h3⟩
          by_cases hpk : p = k
          · subst hpk
            exact absurd h3.symm hne
          · omega
      · exact ⟨by omega, Or.inr ⟨h1, by omega, h3⟩⟩
theorem zd_rXr (h : zd_Z m z (zd_rX i c k f) A) (hk : k < 1000) (hn : ¬ zd_co i k = c) : ¬ A (1000 * z + k) = 0 ↔ f k := by
  rw [zd_cn0 (h.2 k hk), zd_rXi hn]
end resets
/-- the reference's reset below k -/
def zd_rY (i c k : Nat) (f : Nat → Prop) (q : Nat) : Prop := ∃ p, p < k ∧ f p ∧ zd_wi p i c = q
theorem zd_rYn {i c k : Nat} {f : Nat → Prop} {q : Nat} (h : ¬ f k ∨ q ≠ zd_wi k i c) : zd_rY i c k f q ↔ zd_rY i c (k + 1) f q := by
  unfold zd_rY
  constructor
  · rintro ⟨p, hp, h1⟩
    exact ⟨p, by omega, h1⟩
  · rintro ⟨p, hp, h1, h2⟩
    refine ⟨p, ?_, h1, h2⟩
    by_cases hpk : p = k
    · subst hpk
      rcases h with h | h
      · exact absurd h1 h
      · exact absurd h2.symm h
    · omega
theorem zd_rYw {A : Nat → Int32} {i c k : Nat} {f : Nat → Prop} (h : zd_M (zd_rY i c k f) A) (hf : f k) : zd_M (zd_rY i c (k + 1) f) (upd A (zd_wi k i c) 1) :=
  zd_Mst h (zd_ct ⟨k, by omega, hf, rfl⟩) (fun _ _ hn => zd_rYn (Or.inr hn))
theorem zd_rYk {A : Nat → Int32} {i c k : Nat} {f : Nat → Prop} (h : zd_M (zd_rY i c k f) A) (hf : ¬ f k) : zd_M (zd_rY i c (k + 1) f) A := zd_Mif h (fun _ _ => zd_rYn (Or.inl hf))
/-! forget -/
/-- in place: the lines that start below k are done -/
def zd_fX (i k : Nat) (f : Nat → Prop) (q : Nat) : Prop := (zd_wi q i 0 < k ∧ zd_F f i q) ∨ (k ≤ zd_wi q i 0 ∧ f q)
theorem zd_fX0 {i : Nat} {f : Nat → Prop} {q : Nat} : f q ↔ zd_fX i 0 f q := by
  unfold zd_fX
  constructor
  · intro h
    exact Or.inr ⟨by omega, h⟩
  · rintro (⟨h, _⟩ | ⟨_, h⟩)
    · omega
    · exact h
theorem zd_fXe {i : Nat} {f : Nat → Prop} {q : Nat} (ha : 1 ≤ i) (hb : i ≤ 3) (hq : q < 1000) : zd_fX i 1000 f q ↔ zd_F f i q := by
  have := zd_wi_lt (c := 0) ha hb hq (by omega)
  unfold zd_fX
  constructor
  · rintro (⟨_, h⟩ | ⟨h, _⟩)
    · exact h
    · omega
  · intro h
    exact Or.inl ⟨this, h⟩
theorem zd_fXn {i k : Nat} {f : Nat → Prop} {q : Nat} (h : zd_wi q i 0 ≠ k) : zd_fX i k f q ↔ zd_fX i (k + 1) f q := by
  unfold zd_fX
  constructor
  · rintro (⟨h1, h2⟩ | ⟨h1, h2⟩)
    · exact Or.inl ⟨by omega, h2⟩
    · exact Or.inr ⟨by omega, h2⟩
  · rintro (⟨h1, h2⟩ | ⟨h1, h2⟩)
    · exact Or.inl ⟨by omega, h2⟩
    · exact Or.inr ⟨by omega, h2⟩
theorem zd_fXk {m A : Nat → Int32} {z i k : Nat} {f : Nat → Prop} (ha : 1 ≤ i) (hb : i ≤ 3) (h : zd_Z m z (zd_fX i k f) A) (hn : ¬ zd_co i k = 0) : zd_Z m z (zd_fX i (k + 1) f) A :=
  zd_Zif h (fun q hq => zd_fXn (fun e => hn (by rw [← e]; exact zd_wi_co ha hb hq (by omega))))
/-- a line that starts at k, its first x cells written -/
def zd_fL (i k x : Nat) (f : Nat → Prop) (q : Nat) : Prop := (zd_wi q i 0 = k ∧ zd_co i q < x ∧ zd_F f i q) ∨ (¬ (zd_wi q i 0 = k ∧ zd_co i q < x) ∧ zd_fX i k f q)
theorem zd_fL0 {i k : Nat} {f : Nat → Prop} {q : Nat} : zd_fX i k f q ↔ zd_fL i k 0 f q := by
  unfold zd_fL
  constructor
  · intro h
    exact Or.inr ⟨fun h => by omega, h⟩
  · rintro (⟨_, h, _⟩ | ⟨_, h⟩)
    · omega
    · exact h
theorem zd_fLe {i k : Nat} {f : Nat → Prop} {q : Nat} (hq : q < 1000) : zd_fL i k 10 f q ↔ zd_fX i (k + 1) f q := by
  have h9 := zd_co9 (i := i) hq
  by_cases e : zd_wi q i 0 = k
  · unfold zd_fL zd_fX
    constructor
    · rintro (⟨_, _, h⟩ | ⟨h, _⟩)
      · exact Or.inl ⟨by omega, h⟩
      · exact absurd ⟨e, by omega⟩ h
    · rintro (⟨_, h⟩ | ⟨h, _⟩)
      · exact Or.inl ⟨e, by omega, h⟩
      · omega
  · rw [← zd_fXn e]
    unfold zd_fL
    constructor
    · rintro (⟨h, _⟩ | ⟨_, h⟩)
      · exact absurd h e
      · exact h
    · intro h
      exact Or.inr ⟨fun h => e h.1, h⟩
theorem zd_fLw {m A : Nat → Int32} {z i k x : Nat} {f : Nat → Prop} {v : Int32} (ha : 1 ≤ i) (hb : i ≤ 3) (hk : k < 1000) (h0 : zd_co i k = 0) (hx : x < 10) (h : zd_Z m z (zd_fL i k x f) A) (hv : zd_c v (zd_F f i k)) : zd_Z m z (zd_fL i k (x + 1) f) (upd A (1000 * z + zd_wi k i x) v) := by
  have l := zd_wi_lt ha hb hk hx
  have e1 : zd_wi (zd_wi k i x) i 0 = k := by
    rw [zd_wi_w ha hb hk hx, zd_wi_0 h0]
    omega
  have e2 : zd_co i (zd_wi k i x) = x := zd_wi_co ha hb hk hx
  have e3 : zd_F f i k ↔ zd_F f i (zd_wi k i x) := by
    rw [zd_Feq ha hb hk, zd_Feq ha hb l]
    constructor
    · rintro ⟨y, hy, h⟩
      exact ⟨y, hy, by rw [zd_wi_w ha hb hk hx]; exact h⟩
    · rintro ⟨y, hy, h⟩
      rw [zd_wi_w ha hb hk hx] at h
      exact ⟨y, hy, h⟩
  refine zd_Zst h l (zd_cif hv ?_) (fun q hq hne => ?_)
  · rw [e3]
    unfold zd_fL
    constructor
    · intro h
      exact Or.inl ⟨e1, by omega, h⟩
    · rintro (⟨_, _, h⟩ | ⟨h, _⟩)
      · exact h
      · exact absurd ⟨e1, by omega⟩ h
  · have hne2 : ¬ (zd_wi q i 0 = k ∧ zd_co i q = x) := by
      rintro ⟨h1, h2⟩
      apply hne
      rw [← h1, zd_wi_w ha hb hq (by omega), ← h2, zd_wi_s]
    unfold zd_fL
    constructor
    · rintro (⟨h1, h2, h3⟩ | ⟨h1, h2⟩)
      · exact Or.inl ⟨h1, by omega, h3⟩
      · refine Or.inr ⟨fun h => ?_, h2⟩
        by_cases hc : zd_co i q = x
        · exact hne2 ⟨h.1, hc⟩
        · exact h1 ⟨h.1, by omega⟩
    · rintro (⟨h1, h2, h3⟩ | ⟨h1, h2⟩)
      · refine Or.inl ⟨h1, ?_, h3⟩
        by_cases hc : zd_co i q = x
        · exact absurd ⟨h1, hc⟩ hne2
        · omega
      · exact Or.inr ⟨fun h => h1 ⟨h.1, by omega⟩, h2⟩
/-- a read of the line that starts at k, before it is written -/
theorem zd_fXr {m A : Nat → Int32} {z i k x : Nat} {f : Nat → Prop} (ha : 1 ≤ i) (hb : i ≤ 3) (hk : k < 1000) (h0 : zd_co i k = 0) (hx : x < 10) (h : zd_Z m z (zd_fX i k f) A) : ¬ A (1000 * z + zd_wi k i x) = 0 ↔ f (zd_wi k i x) := by
  have l := zd_wi_lt ha hb hk hx
  have e1 : zd_wi (zd_wi k i x) i 0 = k := by
    rw [zd_wi_w ha hb hk hx, zd_wi_0 h0]
    omega
  rw [zd_cn0 (h.2 _ l)]
  unfold zd_fX
  rw [e1]
  constructor
  · rintro (⟨h, _⟩ | ⟨_, h⟩)
    · omega
    · exact h
  · intro h
    exact Or.inr ⟨Nat.le_refl k, h⟩
/-- the reference's forget: the points below k, and c values of point k -/
def zd_fY (i k c : Nat) (f : Nat → Prop) (q : Nat) : Prop := (∃ p, p < k ∧ f p ∧ ∃ d, d < 10 ∧ zd_wi p i d = q) ∨ ∃ d, d < c ∧ zd_wi k i d = q
theorem zd_fYk {i k : Nat} {f : Nat → Prop} {q : Nat} (h : ¬ f k) : zd_fY i k 0 f q ↔ zd_fY i (k + 1) 0 f q := by
  unfold zd_fY
  constructor
  · rintro (⟨p, hp, h1⟩ | ⟨d, hd, _⟩)
    · exact Or.inl ⟨p, by omega, h1⟩
    · omega
  · rintro (⟨p, hp, h1, h2⟩ | ⟨d, hd, _⟩)
    · refine Or.inl ⟨p, ?_, h1, h2⟩
      by_cases hpk : p = k
      · subst hpk
        exact absurd h1 h
      · omega
    · omega
theorem zd_fYe {i k : Nat} {f : Nat → Prop} {q : Nat} (h : f k) : zd_fY i k 10 f q ↔ zd_fY i (k + 1) 0 f q := by
  unfold zd_fY
  constructor
  · rintro (⟨p, hp, h1⟩ | h1)
    · exact Or.inl ⟨p, by omega, h1⟩
    · exact Or.inl ⟨k, by omega, h, h1⟩
  · rintro (⟨p, hp, h1, h2⟩ | ⟨d, hd, _⟩)
    · by_cases hpk : p = k
      · subst hpk
        exact Or.inr h2
      · exact Or.inl ⟨p, by omega, h1, h2⟩
    · omega
theorem zd_fYw {A : Nat → Int32} {i k c : Nat} {f : Nat → Prop} (h : zd_M (zd_fY i k c f) A) : zd_M (zd_fY i k (c + 1) f) (upd A (zd_wi k i c) 1) :=
  zd_Mst h (zd_ct (Or.inr ⟨c, by omega, rfl⟩)) (fun q _ hn => by
    unfold zd_fY
    constructor
    · rintro (h1 | ⟨d, hd, h1⟩)
      · exact Or.inl h1
      · exact Or.inr ⟨d, by omega, h1⟩
    · rintro (h1 | ⟨d, hd, h1⟩)
      · exact Or.inl h1
      · refine Or.inr ⟨d, ?_, h1⟩
        by_cases hdc : d = c
        · subst hdc
          exact absurd h1.symm hn
        · omega)
theorem zd_fY1 {i : Nat} {f : Nat → Prop} {q : Nat} : zd_fY i 1000 0 f q ↔ zd_F f i q := by
  unfold zd_fY zd_F
  constructor
  · rintro (h | ⟨d, hd, _⟩)
    · exact h
    · omega
  · exact Or.inl
end
section
/-! the small private methods of both sides -/
theorem zd_n4 : ¬ (4 : Int32) = 0 := by decide
theorem zd_n10 : ¬ (10 : Int32) = 0 := by decide
theorem zd_n100 : ¬ (100 : Int32) = 0 := by decide
theorem zd_t {A : Nat → Int32} {x : Int32} {n : Nat} (e : x.toNatClampNeg = n) (h : A n = 0) : A x.toNatClampNeg = 0 := by rw [e]; exact h
theorem zd_f {A : Nat → Int32} {x : Int32} {n : Nat} (e : x.toNatClampNeg = n) (h : ¬ A n = 0) : ¬ A x.toNatClampNeg = 0 := by rw [e]; exact h
theorem zd_ea {A : Nat → Int32} {x v w : Int32} {n : Nat} (e : x.toNatClampNeg = n) (h : vp_nar .boolean v = w) : upd A x.toNatClampNeg (vp_nar .boolean v) = upd A n w := by rw [e, h]
theorem zd_g34 (x : Int32) : 3 < x ↔ 4 ≤ x := by
  rw [Int32.lt_iff_toInt_lt, Int32.le_iff_toInt_le, show (3 : Int32).toInt = 3 from by decide, show (4 : Int32).toInt = 4 from by decide]
  omega
theorem zd_g15 (x : Int32) : 15 < x ↔ 16 ≤ x := by
  rw [Int32.lt_iff_toInt_lt, Int32.le_iff_toInt_le, show (15 : Int32).toInt = 15 from by decide, show (16 : Int32).toInt = 16 from by decide]
  omega
theorem zd_g999 (x : Int32) : 999 < x ↔ 1000 ≤ x := by
  rw [Int32.lt_iff_toInt_lt, Int32.le_iff_toInt_le, show (999 : Int32).toInt = 999 from by decide, show (1000 : Int32).toInt = 1000 from by decide]
  omega
/-- 1 if x is a zone's number -/
def zd_iz (x : Int32) : Int32 := if x < 0 then 0 else if 4 ≤ x then 0 else 1
/-- 1 if x is a pair -/
def zd_ip (x : Int32) : Int32 := if x < 0 then 0 else if 16 ≤ x then 0 else if x / 4 = x - x / 4 * 4 then 0 else 1
theorem zx_iz {post : Int32 → Prop} {x : Int32} (h : post (zd_iz x)) : wpX_isZone post x := by
  unfold zd_iz at h
  refine br_c (fun h0 => ?_) (fun h0 => br_c (fun h4 => ?_) (fun h4 => ?_))
  · rw [if_pos h0] at h; exact h
  · rw [if_neg h0, if_pos h4] at h; exact h
  · rw [if_neg h0, if_neg h4] at h; exact h
theorem zy_iz {post : Int32 → Prop} {m md : Nat → Int32} {x : Int32} (h : post (zd_iz x)) : wpY_isZone post (m, md) x := by
  unfold zd_iz at h
  refine br_c (fun h0 => ?_) (fun h0 => br_c (fun h4 => ?_) (fun h4 => ?_))
  · rw [if_pos h0] at h; exact h
  · rw [if_neg h0, if_pos ((zd_g34 x).mp h4)] at h; exact h
  · rw [if_neg h0, if_neg (fun z => h4 ((zd_g34 x).mpr z))] at h; exact h
theorem zx_ip {post : Int32 → Prop} {x : Int32} (h : post (zd_ip x)) : wpX_isPair post x := by
  unfold zd_ip at h
  refine br_c (fun h0 => ?_) (fun h0 => br_c (fun h4 => ?_) (fun h4 => ⟨zd_n4, zd_n4, br_c (fun h5 => ?_) (fun h5 => ?_)⟩))
  · rw [if_pos h0] at h; exact h
  · rw [if_neg h0, if_pos h4] at h; exact h
  · rw [if_neg h0, if_neg h4, if_pos h5] at h; exact h
  · rw [if_neg h0, if_neg h4, if_neg h5] at h; exact h
theorem zy_ip {post : Int32 → Prop} {m md : Nat → Int32} {x : Int32} (h : post (zd_ip x)) : wpY_isPair post (m, md) x := by
  unfold zd_ip at h
  refine br_c (fun h0 => ?_) (fun h0 => br_c (fun h4 => ?_) (fun h4 => ⟨zd_n4, zd_n4, br_c (fun h5 => ?_) (fun h5 => ?_)⟩))
  · rw [if_pos h0] at h; exact h
  · rw [if_neg h0, if_pos ((zd_g15 x).mp h4)] at h; exact h
  · rw [if_neg h0, if_neg (fun z => h4 ((zd_g15 x).mpr z)), if_pos h5] at h; exact h
  · rw [if_neg h0, if_neg (fun z => h4 ((zd_g15 x).mpr z)), if_neg h5] at h; exact h
theorem zd_iz1 {z : Nat} (hz : z < 4) : ¬ zd_iz (nI z) = 0 := by
  have g : ¬ (4 : Int32) ≤ nI z := nI_ge (b := 4) hz (by decide)
  unfold zd_iz
  rw [if_neg (nI_pos (by omega)), if_neg g]
  decide
theorem zd_zone (x : Int32) : zd_iz x = 0 ∨ ∃ z, z < 4 ∧ x = nI z := by
  rcases pk_ix x (n := 4) (by omega) with h | h | h
  · left
    unfold zd_iz
    rw [if_pos h]
  · left
    have h' : (4 : Int32) ≤ x := h
    unfold zd_iz
    by_cases h0 : x < 0
    · rw [if_pos h0]
    · rw [if_neg h0, if_pos h']
  · exact Or.inr h
theorem zd_pair (x : Int32) : zd_ip x = 0 ∨ ∃ r, r < 16 ∧ x = nI r ∧ ¬ zd_ip x = 0 := by
  by_cases h0 : zd_ip x = 0
  · exact Or.inl h0
  · right
    rcases pk_ix x (n := 16) (by omega) with h | h | ⟨r, hr, e⟩
    · exact absurd (by unfold zd_ip; rw [if_pos h]) h0
    · have h' : (16 : Int32) ≤ x := h
      refine absurd ?_ h0
      unfold zd_ip
      by_cases hx : x < 0
      · rw [if_pos hx]
      · rw [if_neg hx, if_pos h']
    · exact ⟨r, hr, e, h0⟩
theorem zd_coI1 {p : Nat} (hp : p < 1000) : nI p - nI p / 10 * 10 = nI (p % 10) := pk_rem (d := 10) (by omega) (by decide) (by decide)
theorem zd_coI2 {p : Nat} (hp : p < 1000) : (nI p / 10) - (nI p / 10) / 10 * 10 = nI (p / 10 % 10) := by
  have e : nI p / 10 = nI (p / 10) := pk_div (d := 10) (by omega) (by decide) (by decide)
  rw [e]
  exact pk_rem (d := 10) (by omega) (by decide) (by decide)
theorem zd_coI3 {p : Nat} (hp : p < 1000) : nI p / 100 = nI (p / 100) := pk_div (d := 100) (by omega) (by decide) (by decide)
theorem zx_co {post : Int32 → Prop} {i p : Nat} (hi : i < 4) (hp : p < 1000) (h : post (nI (zd_co i p))) : wpX_coordinate post (nI i) (nI p) := by
  rcases (by omega : i = 0 ∨ i = 1 ∨ i = 2 ∨ i = 3) with rfl | rfl | rfl | rfl
  · exact br_t (by decide) h
  · refine br_f (by decide) (br_f (by decide) (br_t rfl ⟨zd_n10, ?_⟩))
    rw [zd_coI1 hp]; exact h
  · refine br_f (by decide) (br_f (by decide) (br_f (by decide) (br_t rfl ⟨zd_n10, zd_n10, ?_⟩)))
    rw [zd_coI2 hp]; exact h
  · refine br_f (by decide) (br_f (by decide) (br_f (by decide) (br_f (by decide) (br_t rfl ⟨zd_n100, ?_⟩))))
    rw [zd_coI3 hp]; exact h
theorem zy_co {post : Int32 → Prop} {m md : Nat → Int32} {i p : Nat} (hi : i < 4) (hp : p < 1000) (h : post (nI (zd_co i p))) : wpY_part post (m, md) (nI p) (nI i) := by
  rcases (by omega : i = 0 ∨ i = 1 ∨ i = 2 ∨ i = 3) with rfl | rfl | rfl | rfl
  · exact br_t (by decide) h
  · refine br_f (by decide) (br_t rfl ⟨zd_n10, ?_⟩)
    rw [zd_coI1 hp]; exact h
  · refine br_f (by decide) (br_f (by decide) (br_t rfl ⟨zd_n10, zd_n10, ?_⟩))
    rw [zd_coI2 hp]; exact h
  · refine br_f (by decide) (br_f (by decide) (br_f (by decide) ⟨zd_n100, ?_⟩))
    rw [zd_coI3 hp]; exact h
theorem zd_q4 {r : Nat} (hr : r < 16) : nI r / 4 = nI (r / 4) := pk_div (d := 4) (by omega) (by decide) (by decide)
theorem zd_r4 {r : Nat} (hr : r < 16) : nI r - nI r / 4 * 4 = nI (r % 4) := pk_rem (d := 4) (by omega) (by decide) (by decide)
theorem zx_di {post : Int32 → Prop} {r p : Nat} (hr : r < 16) (hp : p < 1000) (h : post (zd_D r p)) : wpX_difference post (nI r) (nI p) := by
  unfold wpX_difference
  rw [zd_r4 hr, zd_q4 hr]
  exact ⟨zd_n4, zx_co (by omega) hp ⟨zd_n4, zx_co (by omega) hp h⟩⟩
theorem zy_di {post : Int32 → Prop} {m md : Nat → Int32} {r p : Nat} (hr : r < 16) (hp : p < 1000) (h : post (zd_D r p)) : wpY_difference post (m, md) (nI p) (nI r) := by
  unfold wpY_difference
  dsimp only
  rw [zd_r4 hr, zd_q4 hr]
  exact ⟨zd_n4, zy_co (by omega) hp ⟨zd_n4, zy_co (by omega) hp h⟩⟩
theorem zx_ri {post : Int32 → Prop} {p d : Nat} (hp : p < 1000) (hd : d ≤ 9) (h : ∀ x, zd_c x (zd_ri d p) → post x) : wpX_canRise post (nI p) (nI d) := by
  unfold wpX_canRise
  refine zx_co (i := 1) (by omega) hp (pk_lt 9 (p % 10 + d) (fun h9 => h 0 (zd_cf (fun t => ?_))) (fun h1 => ?_) rfl (nI_add (p % 10) d) (by omega) (by omega))
  · have := t.1
    omega
  refine zx_co (i := 2) (by omega) hp (pk_lt 9 (p / 10 % 10 + d) (fun h9 => h 0 (zd_cf (fun t => ?_))) (fun h2 => ?_) rfl (nI_add (p / 10 % 10) d) (by omega) (by omega))
  · have := t.2.1
    omega
  refine zx_co (i := 3) (by omega) hp (pk_lt 9 (p / 100 + d) (fun h9 => h 0 (zd_cf (fun t => ?_))) (fun h3 => ?_) rfl (nI_add (p / 100) d) (by omega) (by omega))
  · have := t.2.2
    omega
  exact h 1 (zd_ct ⟨h1, h2, h3⟩)
theorem zx_w {post : Int32 → Prop} {i : Nat} (ha : 1 ≤ i) (hb : i ≤ 3) (h : post (nI (zd_w i))) : wpX_weightOf post (nI i) := by
  rcases (by omega : i = 1 ∨ i = 2 ∨ i = 3) with rfl | rfl | rfl
  · exact br_t rfl h
  · exact br_f (by decide) (br_t rfl h)
  · exact br_f (by decide) (br_f (by decide) h)
theorem zd_wi00 {p i c : Nat} (ha : 1 ≤ i) (hb : i ≤ 3) : nI p + (nI c - nI (zd_co i p)) * nI (zd_w i) = nI (zd_wi p i c) := by
  have e := zd_wiI (a := 0) (p := p) (c := c) ha hb
  rw [Nat.zero_add, Nat.zero_add] at e
  exact e
theorem zy_wi {post : Int32 → Prop} {m md : Nat → Int32} {p i c : Nat} (ha : 1 ≤ i) (hb : i ≤ 3) (hp : p < 1000) (h : post (nI (zd_wi p i c))) : wpY_with post (m, md) (nI p) (nI i) (nI c) := by
  rw [← zd_wi00 ha hb] at h
  have g : wY_with_21 post (nI p) (nI i) (nI c) (nI (zd_w i)) m md := by
    unfold wY_with_21
    exact zy_co (by omega) hp h
  rcases (by omega : i = 1 ∨ i = 2 ∨ i = 3) with rfl | rfl | rfl
  · exact br_t rfl g
  · exact br_f (by decide) (br_t rfl g)
  · exact br_f (by decide) (br_f (by decide) g)
end
section
/-! the component's loops, each against the sets -/
section walkX
variable {m hb se : Nat → Int32} {z y : Nat}
theorem zx_lo2 {post : Int32 → Prop} (hz : z < 4) : ∀ d i, i + d = 1000 → post (zd_lo m z d i) → wX_lowestPoint_2 post (nI z) m hb se (d + 1) (nI i) := by
  intro d
  induction d with
  | zero =>
    intro i hi h
    obtain rfl : i = 1000 := by omega
    exact br_t zd_e1000 h
  | succ d ih =>
    intro i hi h
    have hp : i < 1000 := by omega
    have hc := zd_clX hz hp
    unfold zd_lo at h
    refine br_f (zd_m1000 hp) ⟨zd_inX hz hp, ?_⟩
    by_cases hm : m (1000 * z + i) = 0
    · rw [if_pos hm] at h
      exact br_t (zd_t hc hm) (nm_r (nI_1 i) (ih (i + 1) (by omega) h))
    · rw [if_neg hm] at h
      exact br_f (zd_f hc hm) h
theorem zx_lo {post : Int32 → Prop} (hz : z < 4) (h : post (zd_lo m z 1000 0)) : wpX_lowestPoint post (m, hb, se) (nI z) := ⟨1000 + 1, zx_lo2 hz 1000 0 (by omega) h⟩
theorem zx_one {post : Int32 → Prop} (hz : z < 4) (h : post (zd_so m z 1000 0)) : wpX_oneIfPoints post (m, hb, se) (nI z) := by
  unfold wpX_oneIfPoints
  unfold zd_so at h
  refine zx_lo hz (br_c (fun e => ?_) (fun e => ?_))
  · rw [if_pos e] at h; exact h
  · rw [if_neg e] at h; exact h
theorem zx_mark2 {post : SX → Prop} {f : Nat → Prop} (hz : z < 4) (K : ∀ B, zd_Z m z (fun _ => True) B → post (B, hb, se)) : ∀ d i A, i + d = 1000 → zd_Z m z (zd_mix i (fun _ => True) f) A → wX_markAll_2 post (nI z) (d + 1) (nI i) A hb se := by
  intro d
  induction d with
  | zero =>
    intro i A hi h
    obtain rfl : i = 1000 := by omega
    exact br_t zd_e1000 (K A (zd_Ze h))
  | succ d ih =>
    intro i A hi h
    have hp : i < 1000 := by omega
    exact br_f (zd_m1000 hp) ⟨zd_inX hz hp, nm_r (zd_ea (zd_clX hz hp) zd_b1) (nm_r (nI_1 i) (ih (i + 1) _ (by omega) (zd_Zw h hp (zd_ct trivial))))⟩
theorem zx_mark {post : SX → Prop} (hz : z < 4) (h0 : zd_01 m) (K : ∀ B, zd_Z m z (fun _ => True) B → post (B, hb, se)) : wpX_markAll post (m, hb, se) (nI z) := ⟨1000 + 1, zx_mark2 hz K 1000 0 m (by omega) (zd_Z0 h0)⟩
theorem zx_copy20 {post : Int32 → SX → Prop} (hz : z < 4) (hy : y < 4) (h0 : zd_01 m) (K : ∀ B, zd_Z m z (fun p => ¬ m (1000 * y + p) = 0) B → post 0 (B, hb, se)) : ∀ d i A, i + d = 1000 → zd_Z m z (zd_mix i (fun p => ¬ m (1000 * y + p) = 0) (fun p => ¬ m (1000 * z + p) = 0)) A → wX_copy_20 post (nI z) (nI y) (d + 1) (nI i) A hb se := by
  intro d
  induction d with
  | zero =>
    intro i A hi h
    obtain rfl : i = 1000 := by omega
    exact br_t zd_e1000 (K A (zd_Ze h))
  | succ d ih =>
    intro i A hi h
    have hp : i < 1000 := by omega
    have hrd : A (1000 * y + i) = m (1000 * y + i) := zd_Zrd h h0 hp (fun _ => zd_mix_i)
    have e : vp_nar .boolean (A (nI y * 1000 + nI i).toNatClampNeg) = m (1000 * y + i) := by rw [zd_clX hy hp, hrd, zd_nar (h0 _)]
    exact br_f (zd_m1000 hp) ⟨zd_inX hy hp, zd_inX hz hp, nm_r (zd_ea (zd_clX hz hp) e) (nm_r (nI_1 i) (ih (i + 1) _ (by omega) (zd_Zw h hp (zd_cof (h0 _)))))⟩
theorem zx_con33 {post : Int32 → SX → Prop} {r : Nat} {c : Int32} (hz : z < 4) (hr : r < 16) (K : ∀ B, zd_Z m z (fun p => ¬ m (1000 * z + p) = 0 ∧ zd_D r p ≤ c) B → post (zd_so B z 1000 0) (B, hb, se)) : ∀ d i A, i + d = 1000 → zd_Z m z (zd_mix i (fun p => ¬ m (1000 * z + p) = 0 ∧ zd_D r p ≤ c) (fun p => ¬ m (1000 * z + p) = 0)) A → wX_constrain_33 post (nI z) (nI r) c (d + 1) (nI i) A hb se := by
  intro d
  induction d with
  | zero =>
    intro i A hi h
    obtain rfl : i = 1000 := by omega
    exact br_t zd_e1000 (zx_one hz (K A (zd_Ze h)))
  | succ d ih =>
    intro i A hi h
    have hp : i < 1000 := by omega
    refine br_f (zd_m1000 hp) (zx_di hr hp ?_)
    by_cases hc : zd_D r i ≤ c
    · exact br_t hc (nm_r (nI_1 i) (ih (i + 1) A (by omega) (zd_Zk h ⟨fun t => t.1, fun t => ⟨t, hc⟩⟩)))
    · exact br_f hc ⟨zd_inX hz hp, nm_r (zd_ea (zd_clX hz hp) zd_b0) (nm_r (nI_1 i) (ih (i + 1) _ (by omega) (zd_Zw h hp (zd_cf (fun t => hc t.2)))))⟩
theorem zx_meet20 {post : Int32 → SX → Prop} (hz : z < 4) (hy : y < 4) (h0 : zd_01 m) (K : ∀ B, zd_Z m z (fun p => ¬ m (1000 * z + p) = 0 ∧ ¬ m (1000 * y + p) = 0) B → post (zd_so B z 1000 0) (B, hb, se)) : ∀ d i A, i + d = 1000 → zd_Z m z (zd_mix i (fun p => ¬ m (1000 * z + p) = 0 ∧ ¬ m (1000 * y + p) = 0) (fun p => ¬ m (1000 * z + p) = 0)) A → wX_meet_20 post (nI z) (nI y) (d + 1) (nI i) A hb se := by
  intro d
  induction d with
  | zero =>
    intro i A hi h
    obtain rfl : i = 1000 := by omega
    exact br_t zd_e1000 (zx_one hz (K A (zd_Ze h)))
  | succ d ih =>
    intro i A hi h
    have hp : i < 1000 := by omega
    have hrd : A (1000 * y + i) = m (1000 * y + i) := zd_Zrd h h0 hp (fun _ => zd_mix_i)
    have hc := zd_clX hy hp
    refine br_f (zd_m1000 hp) ⟨zd_inX hy hp, ?_⟩
    by_cases hm : m (1000 * y + i) = 0
    · exact br_t (zd_t hc (by rw [hrd]; exact hm)) ⟨zd_inX hz hp, nm_r (zd_ea (zd_clX hz hp) zd_b0) (nm_r (nI_1 i) (ih (i + 1) _ (by omega) (zd_Zw h hp (zd_cf (fun t => t.2 hm)))))⟩
    · exact br_f (zd_f hc (by rw [hrd]; exact hm)) (nm_r (nI_1 i) (ih (i + 1) A (by omega) (zd_Zk h ⟨fun t => t.1, fun t => ⟨t, hm⟩⟩)))
theorem zx_gr7 {post : Int32 → Prop} {r : Nat} (hz : z < 4) (hr : r < 16) (h : post (zd_gr m z r 1000)) : ∀ d i, i + d = 1000 → wX_greatestDifference_7 post (nI z) (nI r) m hb se (d + 1) (zd_gr m z r i) (nI i) := by
  intro d
  induction d with
  | zero =>
    intro i hi
    obtain rfl : i = 1000 := by omega
    exact br_t zd_e1000 h
  | succ d ih =>
    intro i hi
    have hp : i < 1000 := by omega
    have hc := zd_clX hz hp
    have g := ih (i + 1) (by omega)
    unfold zd_gr at g
    refine br_f (zd_m1000 hp) (zx_di hr hp ⟨zd_inX hz hp, ?_⟩)
    by_cases hm : m (1000 * z + i) = 0
    · rw [if_pos hm] at g
      exact br_t (zd_t hc hm) (nm_r (nI_1 i) g)
    · rw [if_neg hm] at g
      by_cases hd : zd_D r i ≤ zd_gr m z r i
      · rw [if_pos hd] at g
        exact br_f (zd_f hc hm) (br_t hd (nm_r (nI_1 i) g))
      · rw [if_neg hd] at g
        exact br_f (zd_f hc hm) (br_f hd (nm_r (nI_1 i) g))
theorem zx_gr {post : Int32 → Prop} {r : Nat} (hz : z < 4) (hr : r < 16) (h : post (zd_gr m z r 1000)) : wpX_greatestDifference post (m, hb, se) (nI z) (nI r) := ⟨1000 + 1, zx_gr7 hz hr h 1000 0 (by omega)⟩
theorem zx_kh2 {post : Int32 → Prop} {p : Nat} (hp : p < 1000) (K : ∀ x, zd_c x (∀ r, r < 16 → zd_D r p ≤ hb r) → post x) : ∀ d i, i + d = 16 → (∀ r, r < i → zd_D r p ≤ hb r) → wX_keepsHullBounds_2 post (nI p) m hb se (d + 1) (nI i) := by
  intro d
  induction d with
  | zero =>
    intro i hi h
    obtain rfl : i = 16 := by omega
    exact br_t (nI_le (a := 16) (b := 16) (by omega) (by decide)) (K 1 (zd_ct h))
  | succ d ih =>
    intro i hi h
    have hc : (nI i).toNatClampNeg = i := nI_clamp (by omega)
    refine br_f (nI_ge (b := 16) (by omega) (by decide)) (zx_di (by omega) hp ⟨vp_in_nI (by omega) (by decide), ?_⟩)
    by_cases hd : zd_D i p ≤ hb i
    · exact br_t (by rw [hc]; exact hd) (nm_r (nI_1 i) (ih (i + 1) (by omega) (lt_s h hd)))
    · exact br_f (by rw [hc]; exact hd) (K 0 (zd_cf (fun t => hd (t i (by omega)))))
theorem zx_kh {post : Int32 → Prop} {p : Nat} (hp : p < 1000) (K : ∀ x, zd_c x (∀ r, r < 16 → zd_D r p ≤ hb r) → post x) : wpX_keepsHullBounds post (m, hb, se) (nI p) := ⟨16 + 1, zx_kh2 hp K 16 0 (by omega) (fun _ h => absurd h (by omega))⟩
theorem zx_hull70 {post : Int32 → SX → Prop} {T f : Nat → Prop} (hz : z < 4) (hT : ∀ p, p < 1000 → ((∀ r, r < 16 → zd_D r p ≤ hb r) ↔ T p)) (K : ∀ B, zd_Z m z T B → post (zd_so B z 1000 0) (B, hb, se)) : ∀ d i A, i + d = 1000 → zd_Z m z (zd_mix i T f) A → wX_hull_70 post (nI z) (d + 1) (nI i) A hb se := by
  intro d
  induction d with
  | zero =>
    intro i A hi h
    obtain rfl : i = 1000 := by omega
    exact br_t zd_e1000 (zx_one hz (K A (zd_Ze h)))
  | succ d ih =>
    intro i A hi h
    have hp : i < 1000 := by omega
    exact br_f (zd_m1000 hp) (zx_kh hp (fun x hx => ⟨zd_inX hz hp, nm_r (zd_ea (zd_clX hz hp) (zd_nar (zd_c01 hx))) (nm_r (nI_1 i) (ih (i + 1) _ (by omega) (zd_Zw h hp (zd_cif hx (hT i hp)))))⟩))
theorem zx_hull20 {post : Int32 → SX → Prop} (hz : z < 4) (hy : y < 4) (h0 : zd_01 m) (K : ∀ B hb', zd_Z m z (zd_H m z y) B → post (zd_so B z 1000 0) (B, hb', se)) : ∀ d i (hb : Nat → Int32), i + d = 16 → (∀ r, r < i → hb r = zd_hb m z y r) → wX_hull_20 post (nI z) (nI y) (d + 1) (nI i) m hb se := by
  intro d
  induction d with
  | zero =>
    intro i hb hi h
    obtain rfl : i = 16 := by omega
    refine br_t (nI_le (a := 16) (b := 16) (by omega) (by decide)) ⟨1000 + 1, zx_hull70 hz (T := zd_H m z y) (fun p hp => ?_) (fun B => K B hb) 1000 0 m (by omega) (zd_Z0 h0)⟩
    constructor
    · intro t r hr
      rw [← h r hr]
      exact t r hr
    · intro t r hr
      rw [h r hr]
      exact t r hr
  | succ d ih =>
    intro i hb hi h
    have hi6 : i < 16 := by omega
    have hc : (nI i).toNatClampNeg = i := nI_clamp (by omega)
    have nx : ∀ v, v = zd_hb m z y i → ∀ r, r < i + 1 → upd hb i v r = zd_hb m z y r := by
      intro v hv r hr
      by_cases hri : r = i
      · subst hri
        rw [pk_us, hv]
      · rw [pk_un hri]
        exact h r (by omega)
    refine br_f (nI_ge (b := 16) (by omega) (by decide)) (zx_gr hz hi6 (zx_gr hy hi6 ?_))
    by_cases hd : zd_gr m z i 1000 ≤ zd_gr m y i 1000
    · exact br_t hd ⟨vp_in_nI hi6 (by decide), nm_r (by rw [hc]) (nm_r (nI_1 i) (ih (i + 1) (upd hb i (zd_gr m y i 1000)) (by omega) (nx _ (by unfold zd_hb; rw [if_pos hd]))))⟩
    · exact br_f hd ⟨vp_in_nI hi6 (by decide), nm_r (by rw [hc]) (nm_r (nI_1 i) (ih (i + 1) (upd hb i (zd_gr m z i 1000)) (by omega) (nx _ (by unfold zd_hb; rw [if_neg hd]))))⟩
theorem zd_x111 {i : Nat} : nI z * 1000 + nI i + 111 = nI (1000 * z + (i + 111)) := by
  rw [zd_xX]
  exact (nI_add _ 111).trans (congrArg nI (by omega))
theorem zx_delay13 {post : Int32 → SX → Prop} (hz : z < 4) (K : ∀ B, zd_Z m z (zd_U (fun p => ¬ m (1000 * z + p) = 0)) B → post (zd_so B z 1000 0) (B, hb, se)) : ∀ d i A, i + d = 1000 → zd_Z m z (zd_dX i (fun p => ¬ m (1000 * z + p) = 0)) A → wX_delay_13 post (nI z) (d + 1) (nI i) A hb se := by
  intro d
  induction d with
  | zero =>
    intro i A hi h
    obtain rfl : i = 1000 := by omega
    exact br_t zd_e1000 (zx_one hz (K A (zd_Zif h (fun _ hq => zd_dXe hq))))
  | succ d ih =>
    intro i A hi h
    have hp : i < 1000 := by omega
    have hc := zd_clX hz hp
    have hr := zd_dXr h hp
    refine br_f (zd_m1000 hp) ⟨zd_inX hz hp, ?_⟩
    by_cases hm : A (1000 * z + i) = 0
    · exact br_t (zd_t hc hm) (nm_r (nI_1 i) (ih (i + 1) A (by omega) (zd_dXk h (fun t => hr.mpr t.1 hm))))
    · refine br_f (zd_f hc hm) (zx_ri (d := 1) hp (by omega) (fun x hx => br_c (fun hx0 => nm_r (nI_1 i) (ih (i + 1) A (by omega) (zd_dXk h (fun t => (zd_c0 hx).mp hx0 t.2)))) (fun hx0 => ?_)))
      have hri := (zd_cn0 hx).mp hx0
      have hl : i + 111 < 1000 := zd_ri_lt (t := 1) hri
      refine ⟨by rw [zd_x111]; exact zd_in hz hl, nm_r (zd_ea (by rw [zd_x111]; exact zd_cl hz hl) zd_b1) (nm_r (nI_1 i) (ih (i + 1) _ (by omega) (zd_dXw h (hr.mp hm) hri)))⟩
theorem zx_pastS {post : Int32 → SX → Prop} {f : Nat → Prop} {A : Nat → Int32} {n i : Nat} (hz : z < 4) (hp : i < 1000) (h : zd_Z m z (zd_pX (i + 1) f) A) (nx : ∀ B, zd_Z m z (zd_pX i f) B → wX_past_15 post (nI z) n (nI i + (-1)) B hb se) : wX_past_15 post (nI z) (n + 1) (nI i) A hb se := by
  refine br_f (nI_pos (by omega)) (zx_ri (d := 1) hp (by omega) (fun x hx => br_c (fun hx0 => nm_e (nx A (zd_pXk h hp (fun t => (zd_c0 hx).mp hx0 t.1)))) (fun hx0 => ?_)))
  have hri := (zd_cn0 hx).mp hx0
  have hl : i + 111 < 1000 := zd_ri_lt (t := 1) hri
  have hc : (nI z * 1000 + nI i + 111).toNatClampNeg = 1000 * z + (i + 111) := by rw [zd_x111]; exact zd_cl hz hl
  refine ⟨by rw [zd_x111]; exact zd_in hz hl, ?_⟩
  by_cases hm : A (1000 * z + (i + 111)) = 0
  · exact br_t (zd_t hc hm) (nm_e (nx A (zd_pXk h hp (fun t => (zd_pXr h hri).mpr t.2 hm))))
  · exact br_f (zd_f hc hm) ⟨zd_inX hz hp, nm_r (zd_ea (zd_clX hz hp) zd_b1) (nm_e (nx _ (zd_pXw h hp hri ((zd_pXr h hri).mp hm))))⟩
theorem zx_past15 {post : Int32 → SX → Prop} {f : Nat → Prop} (hz : z < 4) (K : ∀ B, zd_Z m z (zd_V f) B → post (zd_so B z 1000 0) (B, hb, se)) : ∀ i A, i < 1000 → zd_Z m z (zd_pX (i + 1) f) A → wX_past_15 post (nI z) (i + 2) (nI i) A hb se := by
  intro i
  induction i with
  | zero =>
    intro A hi h
    refine zx_pastS hz hi h (fun B hB => ?_)
    rw [show nI 0 + (-1) = -1 by decide]
    exact br_t (by decide) (zx_one hz (K B (zd_Zif hB (fun _ _ => zd_pXe))))
  | succ i ih =>
    intro A hi h
    refine zx_pastS hz hi h (fun B hB => ?_)
    rw [pk_m1]
    exact ih B (by omega) hB
end walkX
end
section
/-! the component's further loops -/
/-- zone z, moved by d, meets zone y -/
def zd_T (m : Nat → Int32) (z y d : Nat) : Prop := ∃ p, p < 1000 ∧ ¬ m (1000 * z + p) = 0 ∧ zd_ri d p ∧ ¬ m (1000 * y + (p + 111 * d)) = 0
/-- the first d from d on that has T, n of them looked at; -2000 if none -/
noncomputable def zd_me (T : Nat → Prop) : Nat → Nat → Int32
  | 0, _ => -2000
  | n + 1, d => @ite Int32 (T d) (Classical.propDecidable (T d)) (nI d) (zd_me T n (d + 1))
section walkX2
variable {m hb se : Nat → Int32} {z y : Nat}
theorem zx_reset37 {post : Int32 → SX → Prop} {f : Nat → Prop} {i c : Nat} (hz : z < 4) (ha : 1 ≤ i) (hb3 : i ≤ 3) (hc : c < 10) (K : ∀ B, zd_Z m z (zd_R f i c) B → post (zd_so B z 1000 0) (B, hb, se)) : ∀ d k A, k + d = 1000 → zd_Z m z (zd_rX i c k f) A → wX_reset_37 post (nI z) (nI i) (nI c) (nI (zd_w i)) (d + 1) (nI k) A hb se := by
  intro d
  induction d with
  | zero =>
    intro k A hk h
    obtain rfl : k = 1000 := by omega
    exact br_t zd_e1000 (zx_one hz (K A (zd_Zif h (fun _ hq => zd_rXe ha hb3 hc hq))))
  | succ d ih =>
    intro k A hk h
    have hp : k < 1000 := by omega
    have hcl := zd_clX hz hp
    have h9 := zd_co9 (i := i) hp
    have e2 : nI z * 1000 + nI k + (nI c - nI (zd_co i k)) * nI (zd_w i) = nI (1000 * z + zd_wi k i c) := by
      rw [zd_xX]
      exact zd_wiI ha hb3
    have hl := zd_wi_lt ha hb3 hp hc
    refine br_f (zd_m1000 hp) (zx_co (by omega) hp (pk_eq (zd_co i k) c (fun e => nm_r (nI_1 k) (ih (k + 1) A (by omega) (zd_rXk h (Or.inl e)))) (fun e => ⟨zd_inX hz hp, ?_⟩) rfl rfl (by omega) (by omega)))
    by_cases hm : A (1000 * z + k) = 0
    · exact br_t (zd_t hcl hm) (nm_r (nI_1 k) (ih (k + 1) A (by omega) (zd_rXk h (Or.inr (fun t => (zd_rXr h hp e).mpr t hm)))))
    · exact br_f (zd_f hcl hm) ⟨zd_inX hz hp, nm_r (zd_ea hcl zd_b0) ⟨by rw [e2]; exact zd_in hz hl, nm_r (zd_ea (by rw [e2]; exact zd_cl hz hl) zd_b1) (nm_r (nI_1 k) (ih (k + 1) _ (by omega) (zd_rXw ha hb3 hc hp h e ((zd_rXr h hp e).mp hm))))⟩⟩
theorem zx_fl54 {post : SX → Prop} {f : Nat → Prop} {i k : Nat} {v : Int32} (hz : z < 4) (ha : 1 ≤ i) (hb3 : i ≤ 3) (hk : k < 1000) (h0 : zd_co i k = 0) (hv : zd_c v (zd_F f i k)) (K : ∀ B, zd_Z m z (zd_fX i (k + 1) f) B → post (B, hb, se)) : ∀ d x A, x + d = 10 → zd_Z m z (zd_fL i k x f) A → wX_fillLine_54 post (nI z) (nI k) (nI (zd_w i)) v (d + 1) (nI x) A hb se := by
  intro d
  induction d with
  | zero =>
    intro x A hx h
    obtain rfl : x = 10 := by omega
    exact br_t (nI_le (a := 10) (b := 10) (by omega) (by decide)) (K A (zd_Zif h (fun _ hq => zd_fLe hq)))
  | succ d ih =>
    intro x A hx h
    have hx9 : x < 10 := by omega
    have hl := zd_wi_lt ha hb3 hk hx9
    have e3 : nI z * 1000 + nI k + nI x * nI (zd_w i) = nI (1000 * z + zd_wi k i x) := by
      rw [zd_xX, pk_mul, nI_add, zd_wi_0 h0, Nat.add_assoc]
    exact br_f (nI_ge (b := 10) hx9 (by decide)) ⟨by rw [e3]; exact zd_in hz hl, nm_r (zd_ea (by rw [e3]; exact zd_cl hz hl) (zd_nar (zd_c01 hv))) (nm_r (nI_1 x) (ih (x + 1) _ (by omega) (zd_fLw ha hb3 hk h0 hx9 h hv)))⟩
theorem zx_fl6 {post : SX → Prop} {f : Nat → Prop} {A : Nat → Int32} {i k : Nat} (hz : z < 4) (ha : 1 ≤ i) (hb3 : i ≤ 3) (hk : k < 1000) (h0 : zd_co i k = 0) (h : zd_Z m z (zd_fX i k f) A) (K : ∀ B, zd_Z m z (zd_fX i (k + 1) f) B → post (B, hb, se)) : ∀ d x v, x + d = 10 → zd_c v (∃ w, w < x ∧ f (zd_wi k i w)) → wX_fillLine_6 post (nI z) (nI k) (nI (zd_w i)) A hb se (d + 1) v (nI x) := by
  intro d
  induction d with
  | zero =>
    intro x v hx hv
    obtain rfl : x = 10 := by omega
    exact br_t (nI_le (a := 10) (b := 10) (by omega) (by decide)) ⟨10 + 1, zx_fl54 hz ha hb3 hk h0 (zd_cif hv (zd_Feq ha hb3 hk).symm) K 10 0 A (by omega) (zd_Zif h (fun _ _ => zd_fL0))⟩
  | succ d ih =>
    intro x v hx hv
    have hx9 : x < 10 := by omega
    have hl := zd_wi_lt ha hb3 hk hx9
    have e3 : nI z * 1000 + nI k + nI x * nI (zd_w i) = nI (1000 * z + zd_wi k i x) := by
      rw [zd_xX, pk_mul, nI_add, zd_wi_0 h0, Nat.add_assoc]
    have hc : (nI z * 1000 + nI k + nI x * nI (zd_w i)).toNatClampNeg = 1000 * z + zd_wi k i x := by rw [e3]; exact zd_cl hz hl
    have hrd := zd_fXr ha hb3 hk h0 hx9 h
    refine br_f (nI_ge (b := 10) hx9 (by decide)) (br_c (fun v0 => ⟨by rw [e3]; exact zd_in hz hl, ?_⟩) (fun v1 => nm_r (nI_1 x) (ih (x + 1) 1 (by omega) (zd_ct ?_))))
    · have nv := (zd_c0 hv).mp v0
      by_cases hm : A (1000 * z + zd_wi k i x) = 0
      · refine br_t (zd_t hc hm) (nm_r (nI_1 x) (ih (x + 1) 0 (by omega) (zd_cf ?_)))
        rintro ⟨w, hw, t⟩
        by_cases hwx : w = x
        · subst hwx
          exact hrd.mpr t hm
        · exact nv ⟨w, by omega, t⟩
      · exact br_f (zd_f hc hm) (nm_r (nI_1 x) (ih (x + 1) 1 (by omega) (zd_ct ⟨x, by omega, hrd.mp hm⟩)))
    · obtain ⟨w, hw, t⟩ := (zd_cn0 hv).mp v1
      exact ⟨w, by omega, t⟩
theorem zx_fill {post : SX → Prop} {f : Nat → Prop} {A : Nat → Int32} {i k : Nat} (hz : z < 4) (ha : 1 ≤ i) (hb3 : i ≤ 3) (hk : k < 1000) (h0 : zd_co i k = 0) (h : zd_Z m z (zd_fX i k f) A) (K : ∀ B, zd_Z m z (zd_fX i (k + 1) f) B → post (B, hb, se)) : wpX_fillLine post (A, hb, se) (nI z) (nI k) (nI (zd_w i)) :=
  ⟨10 + 1, zx_fl6 hz ha hb3 hk h0 h K 10 0 0 (by omega) (zd_cf (fun ⟨_, hw, _⟩ => by omega))⟩
theorem zx_forget26 {post : Int32 → SX → Prop} {f : Nat → Prop} {i : Nat} (hz : z < 4) (ha : 1 ≤ i) (hb3 : i ≤ 3) (K : ∀ B, zd_Z m z (zd_F f i) B → post (zd_so B z 1000 0) (B, hb, se)) : ∀ d k A, k + d = 1000 → zd_Z m z (zd_fX i k f) A → wX_forget_26 post (nI z) (nI i) (nI (zd_w i)) (d + 1) (nI k) A hb se := by
  intro d
  induction d with
  | zero =>
    intro k A hk h
    obtain rfl : k = 1000 := by omega
    exact br_t zd_e1000 (zx_one hz (K A (zd_Zif h (fun _ hq => zd_fXe ha hb3 hq))))
  | succ d ih =>
    intro k A hk h
    have hp : k < 1000 := by omega
    have h9 := zd_co9 (i := i) hp
    exact br_f (zd_m1000 hp) (zx_co (by omega) hp (pk_eq (zd_co i k) 0 (fun e => zx_fill hz ha hb3 hp e h (fun B hB => nm_r (nI_1 k) (ih (k + 1) B (by omega) hB))) (fun e => nm_r (nI_1 k) (ih (k + 1) A (by omega) (zd_fXk ha hb3 h e))) rfl rfl (by omega) (by omega)))
theorem zx_count15 {post : Int32 → Prop} (hz : z < 4) (h : post (nI (zd_cn m z 1000))) : ∀ d i, i + d = 1000 → wX_count_15 post (nI z) m hb se (d + 1) (nI (zd_cn m z i)) (nI i) := by
  intro d
  induction d with
  | zero =>
    intro i hi
    obtain rfl : i = 1000 := by omega
    exact br_t zd_e1000 h
  | succ d ih =>
    intro i hi
    have hp : i < 1000 := by omega
    have hc := zd_clX hz hp
    have g := ih (i + 1) (by omega)
    unfold zd_cn at g
    refine br_f (zd_m1000 hp) ⟨zd_inX hz hp, ?_⟩
    by_cases hm : m (1000 * z + i) = 0
    · rw [if_pos hm] at g
      exact br_t (zd_t hc hm) (nm_r (nI_1 i) g)
    · rw [if_neg hm] at g
      exact br_f (zd_f hc hm) (nm_r (nI_1 (zd_cn m z i)) (nm_r (nI_1 i) g))
theorem zx_within18 {post : Int32 → Prop} (hz : z < 4) (hy : y < 4) (K : ∀ x, zd_c x (∀ p, p < 1000 → ¬ m (1000 * z + p) = 0 → ¬ m (1000 * y + p) = 0) → post x) : ∀ d i, i + d = 1000 → (∀ p, p < i → ¬ m (1000 * z + p) = 0 → ¬ m (1000 * y + p) = 0) → wX_within_18 post (nI z) (nI y) m hb se (d + 1) (nI i) := by
  intro d
  induction d with
  | zero =>
    intro i hi h
    obtain rfl : i = 1000 := by omega
    exact br_t zd_e1000 (K 1 (zd_ct h))
  | succ d ih =>
    intro i hi h
    have hp : i < 1000 := by omega
    have hc := zd_clX hz hp
    have hcy := zd_clX hy hp
    refine br_f (zd_m1000 hp) ⟨zd_inX hz hp, ?_⟩
    by_cases hm : m (1000 * z + i) = 0
    · exact br_t (zd_t hc hm) (nm_r (nI_1 i) (ih (i + 1) (by omega) (lt_s h (fun t => absurd hm t))))
    · refine br_f (zd_f hc hm) ⟨zd_inX hy hp, ?_⟩
      by_cases hn : m (1000 * y + i) = 0
      · exact br_t (zd_t hcy hn) (K 0 (zd_cf (fun t => t i hp hm hn)))
      · exact br_f (zd_f hcy hn) (nm_r (nI_1 i) (ih (i + 1) (by omega) (lt_s h (fun _ => hn))))
theorem zx_tw3 {post : Int32 → Prop} {d : Nat} (hz : z < 4) (hy : y < 4) (hd : d ≤ 9) (K : ∀ x, zd_c x (zd_T m z y d) → post x) : ∀ n i, i + n = 1000 → (∀ p, p < i → ¬ (¬ m (1000 * z + p) = 0 ∧ zd_ri d p ∧ ¬ m (1000 * y + (p + 111 * d)) = 0)) → wX_touchesWhenMoved_3 post (nI z) (nI y) (nI d) m hb se (n + 1) (nI i) := by
  intro n
  induction n with
  | zero =>
    intro i hi h
    obtain rfl : i = 1000 := by omega
    exact br_t zd_e1000 (K 0 (zd_cf (fun ⟨p, hp, t⟩ => h p hp t)))
  | succ n ih =>
    intro i hi h
    have hp : i < 1000 := by omega
    have hc := zd_clX hz hp
    refine br_f (zd_m1000 hp) ⟨zd_inX hz hp, ?_⟩
    by_cases hm : m (1000 * z + i) = 0
    · exact br_t (zd_t hc hm) (nm_r (nI_1 i) (ih (i + 1) (by omega) (lt_s h (fun t => t.1 hm))))
    · refine br_f (zd_f hc hm) (zx_ri hp hd (fun x hx => br_c (fun hx0 => nm_r (nI_1 i) (ih (i + 1) (by omega) (lt_s h (fun t => (zd_c0 hx).mp hx0 t.2.1)))) (fun hx0 => ?_)))
      have hri := (zd_cn0 hx).mp hx0
      have hl : i + 111 * d < 1000 := zd_ri_lt hri
      have e : nI y * 1000 + nI i + nI d * 111 = nI (1000 * y + (i + 111 * d)) := by
        rw [zd_xX, show nI d * 111 = nI (d * 111) from pk_mul d 111, nI_add]
        exact congrArg nI (by omega)
      have hcy : (nI y * 1000 + nI i + nI d * 111).toNatClampNeg = 1000 * y + (i + 111 * d) := by rw [e]; exact zd_cl hy hl
      refine ⟨by rw [e]; exact zd_in hy hl, ?_⟩
      by_cases hn : m (1000 * y + (i + 111 * d)) = 0
      · exact br_t (zd_t hcy hn) (nm_r (nI_1 i) (ih (i + 1) (by omega) (lt_s h (fun t => t.2.2 hn))))
      · exact br_f (zd_f hcy hn) (K 1 (zd_ct ⟨i, hp, hm, hri, hn⟩))
theorem zx_tw {post : Int32 → Prop} {d : Nat} (hz : z < 4) (hy : y < 4) (hd : d ≤ 9) (K : ∀ x, zd_c x (zd_T m z y d) → post x) : wpX_touchesWhenMoved post (m, hb, se) (nI z) (nI y) (nI d) := ⟨1000 + 1, zx_tw3 hz hy hd K 1000 0 (by omega) (fun _ h => absurd h (by omega))⟩
theorem zx_meeting20 {post : Int32 → Prop} (hz : z < 4) (hy : y < 4) : ∀ n d, d + n = 10 → post (zd_me (zd_T m z y) n d) → wX_meeting_20 post (nI z) (nI y) m hb se (n + 1) (nI d) := by
  intro n
  induction n with
  | zero =>
    intro d hd h
    obtain rfl : d = 10 := by omega
    exact br_t (nI_lt (a := 9) (b := 10) (by omega) (by decide)) h
  | succ n ih =>
    intro d hd h
    unfold zd_me at h
    refine br_f (nI_nlt (a := 9) (b := d) (by omega) (by decide)) (zx_tw hz hy (by omega) (fun x hx => br_c (fun hx0 => ?_) (fun hx0 => ?_)))
    · rw [if_neg ((zd_c0 hx).mp hx0)] at h
      exact nm_r (nI_1 d) (ih (d + 1) (by omega) h)
    · rw [if_pos ((zd_cn0 hx).mp hx0)] at h
      exact h
theorem zx_spread44 {post : Int32 → SX → Prop} {r : Nat} (hz : z < 4) (hr : r < 16) (K : ∀ se' : Nat → Int32, (∀ d, d < 19 → zd_c (se' d) (zd_S m z r 1000 d)) → post (nI (zd_cs se' 19)) (m, hb, se')) : ∀ n i (se : Nat → Int32), i + n = 1000 → (∀ d, d < 19 → zd_c (se d) (zd_S m z r i d)) → wX_spread_44 post (nI z) (nI r) (n + 1) (nI (zd_cs se 19)) (nI i) m hb se := by
  intro n
  induction n with
  | zero =>
    intro i se hi h
    obtain rfl : i = 1000 := by omega
    exact br_t zd_e1000 (K se h)
  | succ n ih =>
    intro i se hi h
    have hp : i < 1000 := by omega
    have hc := zd_clX hz hp
    have hl := zd_d9_lt (r := r) hp
    have hcd : (nI (zd_d9 r i)).toNatClampNeg = zd_d9 r i := nI_clamp (by omega)
    refine br_f (zd_m1000 hp) (zx_di hr hp (nm_r (zd_d9I hp) ⟨zd_inX hz hp, ?_⟩))
    by_cases hm : m (1000 * z + i) = 0
    · refine br_t (zd_t hc hm) (nm_r (nI_1 i) (ih (i + 1) se (by omega) (fun d hd => zd_cif (h d hd) ?_)))
      rw [zd_S_s]
      exact ⟨Or.inl, fun t => t.elim id (fun t => absurd hm t.1)⟩
    · refine br_f (zd_f hc hm) ⟨vp_in_nI hl (by decide), ?_⟩
      by_cases hs : se (zd_d9 r i) = 0
      · have g := ih (i + 1) (upd se (zd_d9 r i) 1) (by omega) (fun d hd => by
          by_cases hdd : d = zd_d9 r i
          · rw [hdd, pk_us]
            exact zd_ct (zd_S_s.mpr (Or.inr ⟨hm, rfl⟩))
          · rw [pk_un hdd]
            refine zd_cif (h d hd) ?_
            rw [zd_S_s]
            exact ⟨Or.inl, fun t => t.elim id (fun t => absurd t.2.symm hdd)⟩)
        rw [zd_cs_up hs, if_pos hl] at g
        exact br_t (zd_t hcd hs) ⟨vp_in_nI hl (by decide), nm_r (zd_ea hcd zd_b1) (nm_r (nI_1 (zd_cs se 19)) (nm_r (nI_1 i) g))⟩
      · refine br_f (zd_f hcd hs) (nm_r (nI_1 i) (ih (i + 1) se (by omega) (fun d hd => zd_cif (h d hd) ?_)))
        rw [zd_S_s]
        refine ⟨Or.inl, fun t => t.elim id (fun t => ?_)⟩
        rw [← t.2]
        exact (zd_cn0 (h _ hl)).mp hs
theorem zx_spread20 {post : Int32 → SX → Prop} {r : Nat} (hz : z < 4) (hr : r < 16) (K : ∀ se' : Nat → Int32, (∀ d, d < 19 → zd_c (se' d) (zd_S m z r 1000 d)) → post (nI (zd_cs se' 19)) (m, hb, se')) : ∀ n i (se : Nat → Int32), i + n = 19 → (∀ d, d < i → se d = 0) → wX_spread_20 post (nI z) (nI r) (n + 1) (nI i) m hb se := by
  intro n
  induction n with
  | zero =>
    intro i se hi h
    obtain rfl : i = 19 := by omega
    have g := zx_spread44 hz hr K 1000 0 se (by omega) (fun d hd => by rw [h d hd]; exact zd_cf zd_S_0)
    rw [zd_cs_0 19 h] at g
    exact br_t (nI_le (a := 19) (b := 19) (by omega) (by decide)) ⟨1000 + 1, g⟩
  | succ n ih =>
    intro i se hi h
    have hi9 : i < 19 := by omega
    refine br_f (nI_ge (b := 19) hi9 (by decide)) ⟨vp_in_nI hi9 (by decide), nm_r (zd_ea (nI_clamp (by omega)) zd_b0) (nm_r (nI_1 i) (ih (i + 1) (upd se i 0) (by omega) (fun d hd => ?_)))⟩
    by_cases hdi : d = i
    · rw [hdi, pk_us]
    · rw [pk_un hdi]
      exact h d (by omega)
end walkX2
end
section
/-! the reference's loops, each against the same sets -/
section walkY
variable {m md : Nat → Int32} {z y : Nat}
theorem zy_so2 {post : Int32 → Prop} (hz : z < 4) : ∀ d i, i + d = 1000 → post (zd_so m z d i) → wY_some_2 post (nI z) m md (d + 1) (nI i) := by
  intro d
  induction d with
  | zero =>
    intro i hi h
    obtain rfl : i = 1000 := by omega
    exact br_t zd_e1000 h
  | succ d ih =>
    intro i hi h
    have hp : i < 1000 := by omega
    have hc := zd_clY hz hp
    unfold zd_so zd_lo at h
    refine br_f (zd_m1000 hp) ⟨zd_inY hz hp, ?_⟩
    by_cases hm : m (1000 * z + i) = 0
    · rw [if_pos hm] at h
      exact br_t (zd_t hc hm) (nm_r (nI_1 i) (ih (i + 1) (by omega) h))
    · rw [if_neg hm, if_neg (zd_nne (by omega))] at h
      exact br_f (zd_f hc hm) h
theorem zy_so {post : Int32 → Prop} (hz : z < 4) (h : post (zd_so m z 1000 0)) : wpY_some post (m, md) (nI z) := ⟨1000 + 1, zy_so2 hz 1000 0 (by omega) h⟩
theorem zy_least14 {post : Int32 → Prop} (hz : z < 4) : ∀ d i, i + d = 1000 → post (zd_lo m z d i) → wY_least_14 post (nI z) m md (d + 1) (nI i) := by
  intro d
  induction d with
  | zero =>
    intro i hi h
    obtain rfl : i = 1000 := by omega
    exact br_t zd_e1000 h
  | succ d ih =>
    intro i hi h
    have hp : i < 1000 := by omega
    have hc := zd_clY hz hp
    unfold zd_lo at h
    refine br_f (zd_m1000 hp) ⟨zd_inY hz hp, ?_⟩
    by_cases hm : m (1000 * z + i) = 0
    · rw [if_pos hm] at h
      exact br_t (zd_t hc hm) (nm_r (nI_1 i) (ih (i + 1) (by omega) h))
    · rw [if_neg hm] at h
      exact br_f (zd_f hc hm) h
theorem zy_fresh14 {post : Int32 → SY → Prop} {f : Nat → Prop} (hz : z < 4) (K : ∀ B, zd_Z m z (fun _ => True) B → post 0 (B, md)) : ∀ d i A, i + d = 1000 → zd_Z m z (zd_mix i (fun _ => True) f) A → wY_fresh_14 post (nI z) (d + 1) (nI i) A md := by
  intro d
  induction d with
  | zero =>
    intro i A hi h
    obtain rfl : i = 1000 := by omega
    exact br_t zd_e1000 (K A (zd_Ze h))
  | succ d ih =>
    intro i A hi h
    have hp : i < 1000 := by omega
    exact br_f (zd_m1000 hp) ⟨zd_inY hz hp, nm_r (zd_ea (zd_clY hz hp) zd_b1) (nm_r (nI_1 i) (ih (i + 1) _ (by omega) (zd_Zw h hp (zd_ct trivial))))⟩
theorem zy_copy22 {post : Int32 → SY → Prop} (hz : z < 4) (hy : y < 4) (h0 : zd_01 m) (K : ∀ B, zd_Z m z (fun p => ¬ m (1000 * y + p) = 0) B → post 0 (B, md)) : ∀ d i A, i + d = 1000 → zd_Z m z (zd_mix i (fun p => ¬ m (1000 * y + p) = 0) (fun p => ¬ m (1000 * z + p) = 0)) A → wY_copy_22 post (nI z) (nI y) (d + 1) (nI i) A md := by
  intro d
  induction d with
  | zero =>
    intro i A hi h
    obtain rfl : i = 1000 := by omega
    exact br_t zd_e1000 (K A (zd_Ze h))
  | succ d ih =>
    intro i A hi h
    have hp : i < 1000 := by omega
    have hrd : A (1000 * y + i) = m (1000 * y + i) := zd_Zrd h h0 hp (fun _ => zd_mix_i)
    have e : vp_nar .boolean (A (1000 * nI y + nI i).toNatClampNeg) = m (1000 * y + i) := by rw [zd_clY hy hp, hrd, zd_nar (h0 _)]
    exact br_f (zd_m1000 hp) ⟨zd_inY hy hp, zd_inY hz hp, nm_r (zd_ea (zd_clY hz hp) e) (nm_r (nI_1 i) (ih (i + 1) _ (by omega) (zd_Zw h hp (zd_cof (h0 _)))))⟩
theorem zy_con35 {post : Int32 → SY → Prop} {r : Nat} {c : Int32} (hz : z < 4) (hr : r < 16) (K : ∀ B, zd_Z m z (fun p => ¬ m (1000 * z + p) = 0 ∧ zd_D r p ≤ c) B → post (zd_so B z 1000 0) (B, md)) : ∀ d i A, i + d = 1000 → zd_Z m z (zd_mix i (fun p => ¬ m (1000 * z + p) = 0 ∧ zd_D r p ≤ c) (fun p => ¬ m (1000 * z + p) = 0)) A → wY_constrain_35 post (nI z) (nI r) c (d + 1) (nI i) A md := by
  intro d
  induction d with
  | zero =>
    intro i A hi h
    obtain rfl : i = 1000 := by omega
    exact br_t zd_e1000 (zy_so hz (K A (zd_Ze h)))
  | succ d ih =>
    intro i A hi h
    have hp : i < 1000 := by omega
    have hc := zd_clY hz hp
    have hf := zd_Zi h hp
    refine br_f (zd_m1000 hp) ⟨zd_inY hz hp, ?_⟩
    by_cases hm : A (1000 * z + i) = 0
    · exact br_t (zd_t hc hm) ⟨zd_inY hz hp, nm_r (zd_ea hc zd_b0) (nm_r (nI_1 i) (ih (i + 1) _ (by omega) (zd_Zw h hp (zd_cf (fun t => hf.mp hm t.1)))))⟩
    · have hm' : ¬ m (1000 * z + i) = 0 := Classical.not_not.mp (fun t => hm (hf.mpr t))
      refine br_f (zd_f hc hm) (zy_di hr hp ?_)
      by_cases hd : c < zd_D r i
      · exact br_t hd ⟨zd_inY hz hp, nm_r (zd_ea hc zd_b0) (nm_r (nI_1 i) (ih (i + 1) _ (by omega) (zd_Zw h hp (zd_cf (fun t => Int32.not_le.mpr hd t.2)))))⟩
      · exact br_f hd ⟨zd_inY hz hp, nm_r (zd_ea hc zd_b1) (nm_r (nI_1 i) (ih (i + 1) _ (by omega) (zd_Zw h hp (zd_ct ⟨hm', Int32.not_lt.mp hd⟩))))⟩
theorem zy_meet22 {post : Int32 → SY → Prop} (hz : z < 4) (hy : y < 4) (h0 : zd_01 m) (K : ∀ B, zd_Z m z (fun p => ¬ m (1000 * z + p) = 0 ∧ ¬ m (1000 * y + p) = 0) B → post (zd_so B z 1000 0) (B, md)) : ∀ d i A, i + d = 1000 → zd_Z m z (zd_mix i (fun p => ¬ m (1000 * z + p) = 0 ∧ ¬ m (1000 * y + p) = 0) (fun p => ¬ m (1000 * z + p) = 0)) A → wY_meet_22 post (nI z) (nI y) (d + 1) (nI i) A md := by
  intro d
  induction d with
  | zero =>
    intro i A hi h
    obtain rfl : i = 1000 := by omega
    exact br_t zd_e1000 (zy_so hz (K A (zd_Ze h)))
  | succ d ih =>
    intro i A hi h
    have hp : i < 1000 := by omega
    have hrd : A (1000 * y + i) = m (1000 * y + i) := zd_Zrd h h0 hp (fun _ => zd_mix_i)
    have hc := zd_clY hz hp
    have hcy := zd_clY hy hp
    have hf := zd_Zi h hp
    refine br_f (zd_m1000 hp) ⟨zd_inY hz hp, ?_⟩
    by_cases hm : A (1000 * z + i) = 0
    · exact br_t (zd_t hc hm) ⟨zd_inY hz hp, nm_r (zd_ea hc zd_b0) (nm_r (nI_1 i) (ih (i + 1) _ (by omega) (zd_Zw h hp (zd_cf (fun t => hf.mp hm t.1)))))⟩
    · have hm' : ¬ m (1000 * z + i) = 0 := Classical.not_not.mp (fun t => hm (hf.mpr t))
      refine br_f (zd_f hc hm) ⟨zd_inY hy hp, ?_⟩
      by_cases hn : m (1000 * y + i) = 0
      · exact br_t (zd_t hcy (by rw [hrd]; exact hn)) ⟨zd_inY hz hp, nm_r (zd_ea hc zd_b0) (nm_r (nI_1 i) (ih (i + 1) _ (by omega) (zd_Zw h hp (zd_cf (fun t => t.2 hn)))))⟩
      · exact br_f (zd_f hcy (by rw [hrd]; exact hn)) ⟨zd_inY hz hp, nm_r (zd_ea hc zd_b1) (nm_r (nI_1 i) (ih (i + 1) _ (by omega) (zd_Zw h hp (zd_ct ⟨hm', hn⟩))))⟩
theorem zy_gr7 {post : Int32 → Prop} {r : Nat} (hz : z < 4) (hr : r < 16) (h : post (zd_gr m z r 1000)) : ∀ d i, i + d = 1000 → wY_greatest_7 post (nI z) (nI r) m md (d + 1) (zd_gr m z r i) (nI i) := by
  intro d
  induction d with
  | zero =>
    intro i hi
    obtain rfl : i = 1000 := by omega
    exact br_t zd_e1000 h
  | succ d ih =>
    intro i hi
    have hp : i < 1000 := by omega
    have hc := zd_clY hz hp
    have g := ih (i + 1) (by omega)
    unfold zd_gr at g
    refine br_f (zd_m1000 hp) ⟨zd_inY hz hp, ?_⟩
    by_cases hm : m (1000 * z + i) = 0
    · rw [if_pos hm] at g
      exact br_t (zd_t hc hm) (nm_r (nI_1 i) g)
    · rw [if_neg hm] at g
      refine br_f (zd_f hc hm) (zy_di hr hp ?_)
      by_cases hd : zd_D r i ≤ zd_gr m z r i
      · rw [if_pos hd] at g
        exact br_t hd (nm_r (nI_1 i) g)
      · rw [if_neg hd] at g
        exact br_f hd (nm_r (nI_1 i) g)
theorem zy_gr {post : Int32 → Prop} {r : Nat} (hz : z < 4) (hr : r < 16) (h : post (zd_gr m z r 1000)) : wpY_greatest post (m, md) (nI z) (nI r) := ⟨1000 + 1, zy_gr7 hz hr h 1000 0 (by omega)⟩
theorem zy_take2 {post : Int32 → SY → Prop} {T f : Nat → Prop} (hz : z < 4) (hM : zd_M T md) (K : ∀ B, zd_Z m z T B → post (zd_so B z 1000 0) (B, md)) : ∀ d i A, i + d = 1000 → zd_Z m z (zd_mix i T f) A → wY_takeMade_2 post (nI z) (d + 1) (nI i) A md := by
  intro d
  induction d with
  | zero =>
    intro i A hi h
    obtain rfl : i = 1000 := by omega
    exact br_t zd_e1000 (zy_so hz (K A (zd_Ze h)))
  | succ d ih =>
    intro i A hi h
    have hp : i < 1000 := by omega
    have e : vp_nar .boolean (md (nI i).toNatClampNeg) = md i := by rw [nI_clamp (by omega), zd_nar (zd_c01 (hM i hp))]
    exact br_f (zd_m1000 hp) ⟨vp_in_nI hp (by decide), zd_inY hz hp, nm_r (zd_ea (zd_clY hz hp) e) (nm_r (nI_1 i) (ih (i + 1) _ (by omega) (zd_Zw h hp (hM i hp))))⟩
theorem zy_take {post : Int32 → SY → Prop} {T : Nat → Prop} (hz : z < 4) (h0 : zd_01 m) (hM : zd_M T md) (K : ∀ B md', zd_Z m z T B → post (zd_so B z 1000 0) (B, md')) : wpY_takeMade post (m, md) (nI z) := ⟨1000 + 1, zy_take2 hz hM (fun B => K B md) 1000 0 m (by omega) (zd_Z0 h0)⟩
theorem zy_clear2 {post : SY → Prop} (K : ∀ md', zd_M (fun _ => False) md' → post (m, md')) : ∀ d i md, i + d = 1000 → zd_Mf i (fun _ => False) md → wY_clearMade_2 post (d + 1) (nI i) m md := by
  intro d
  induction d with
  | zero =>
    intro i md hi h
    obtain rfl : i = 1000 := by omega
    exact br_t zd_e1000 (K md h)
  | succ d ih =>
    intro i md hi h
    have hp : i < 1000 := by omega
    exact br_f (zd_m1000 hp) ⟨vp_in_nI hp (by decide), nm_r (zd_ea (nI_clamp (by omega)) zd_b0) (nm_r (nI_1 i) (ih (i + 1) _ (by omega) (zd_Mfw h (zd_cf id))))⟩
theorem zy_clear {post : SY → Prop} (K : ∀ md', zd_M (fun _ => False) md' → post (m, md')) : wpY_clearMade post (m, md) := ⟨1000 + 1, zy_clear2 K 1000 0 md (by omega) zd_Mf0⟩
/-! hull -/
theorem zy_hull112 {post : Int32 → SY → Prop} {J : Int32 → (Nat → Int32) → (Nat → Int32) → Prop} {f : Nat → Prop} {x1 x2 most : Int32} {r : Nat} (hr : r < 16) (K : ∀ md', zd_M (fun p => f p ∧ zd_D r p ≤ most) md' → J (nI (r + 1)) m md') : ∀ d i md, i + d = 1000 → zd_M (zd_mix i (fun p => f p ∧ zd_D r p ≤ most) f) md → wY_hull_112 post J x1 x2 (nI r) most (d + 1) (nI i) m md := by
  intro d
  induction d with
  | zero =>
    intro i md hi h
    obtain rfl : i = 1000 := by omega
    exact br_t zd_e1000 (nm_r (nI_1 r) (K md (zd_Me h)))
  | succ d ih =>
    intro i md hi h
    have hp : i < 1000 := by omega
    have hc : (nI i).toNatClampNeg = i := nI_clamp (by omega)
    have hf := zd_Mi h hp
    have hin : vp_in (nI i) 1000 := vp_in_nI hp (by decide)
    refine br_f (zd_m1000 hp) ⟨hin, ?_⟩
    by_cases hm : md i = 0
    · exact br_t (zd_t hc hm) ⟨hin, nm_r (zd_ea hc zd_b0) (nm_r (nI_1 i) (ih (i + 1) _ (by omega) (zd_Mw h (zd_cf (fun t => hf.mp hm t.1)))))⟩
    · have hm' : f i := Classical.not_not.mp (fun t => hm (hf.mpr t))
      refine br_f (zd_f hc hm) (zy_di hr hp ?_)
      by_cases hd : most < zd_D r i
      · exact br_t hd ⟨hin, nm_r (zd_ea hc zd_b0) (nm_r (nI_1 i) (ih (i + 1) _ (by omega) (zd_Mw h (zd_cf (fun t => Int32.not_le.mpr hd t.2)))))⟩
      · exact br_f hd ⟨hin, nm_r (zd_ea hc zd_b1) (nm_r (nI_1 i) (ih (i + 1) _ (by omega) (zd_Mw h (zd_ct ⟨hm', Int32.not_lt.mp hd⟩))))⟩
theorem zy_hull68 {post : Int32 → SY → Prop} {g : Prop} (hz : z < 4) (hy : y < 4) (h0 : zd_01 m) (hg : ¬ g → ∀ p, ¬ zd_H m z y p) (K : ∀ B md', zd_Z m z (zd_H m z y) B → post (zd_so B z 1000 0) (B, md')) : ∀ d i md, i + d = 16 → zd_M (fun p => g ∧ ∀ r, r < i → zd_D r p ≤ zd_hb m z y r) md → wY_hull_68 post (nI z) (nI y) (d + 1) (nI i) m md := by
  intro d
  induction d with
  | zero =>
    intro i md hi h
    obtain rfl : i = 16 := by omega
    refine br_t (nI_le (a := 16) (b := 16) (by omega) (by decide)) (zy_take hz h0 (zd_Mif h (fun p _ => ⟨fun t => t.2, fun t => ⟨?_, t⟩⟩)) K)
    by_cases hgg : g
    · exact hgg
    · exact absurd t (hg hgg p)
  | succ d ih =>
    intro i md hi h
    have hi6 : i < 16 := by omega
    refine br_f (nI_ge (b := 16) hi6 (by decide)) (zy_gr hz hi6 (zy_gr hy hi6 ?_))
    have nx : ∀ v, v = zd_hb m z y i → ∃ n, wY_hull_112 post (wY_hull_68 post (nI z) (nI y) (d + 1)) (nI z) (nI y) (nI i) v n 0 m md := by
      intro v hv
      refine ⟨1000 + 1, zy_hull112 hi6 (fun md' hM => ih (i + 1) md' (by omega) (zd_Mif hM (fun p _ => ?_))) 1000 0 md (by omega) (zd_M0 h)⟩
      rw [hv]
      constructor
      · rintro ⟨⟨t1, t2⟩, t3⟩
        exact ⟨t1, lt_s t2 t3⟩
      · rintro ⟨t1, t2⟩
        exact ⟨⟨t1, fun r hr => t2 r (by omega)⟩, t2 i (by omega)⟩
    by_cases hd : zd_gr m z i 1000 ≤ zd_gr m y i 1000
    · exact br_t hd (nx _ (by unfold zd_hb; rw [if_pos hd]))
    · exact br_f hd (nx _ (by unfold zd_hb; rw [if_neg hd]))
theorem zy_hull35 {post : Int32 → SY → Prop} {any : Int32} (hz : z < 4) (hy : y < 4) (h0 : zd_01 m) (hg : any ≤ 0 → ∀ p, ¬ zd_H m z y p) (K : ∀ B md', zd_Z m z (zd_H m z y) B → post (zd_so B z 1000 0) (B, md')) : ∀ d i md, i + d = 1000 → zd_Mf i (fun _ => ¬ any ≤ 0) md → wY_hull_35 post (nI z) (nI y) any (d + 1) (nI i) m md := by
  intro d
  induction d with
  | zero =>
    intro i md hi h
    obtain rfl : i = 1000 := by omega
    exact br_t zd_e1000 ⟨16 + 1, zy_hull68 (g := ¬ any ≤ 0) hz hy h0 (fun t => hg (Classical.not_not.mp t)) K 16 0 md (by omega) (zd_Mif h (fun p _ => ⟨fun t => ⟨t, fun r hr => absurd hr (by omega)⟩, fun t => t.1⟩))⟩
  | succ d ih =>
    intro i md hi h
    have hp : i < 1000 := by omega
    have hc : (nI i).toNatClampNeg = i := nI_clamp (by omega)
    have hin : vp_in (nI i) 1000 := vp_in_nI hp (by decide)
    refine br_f (zd_m1000 hp) (br_c (fun ha => ?_) (fun ha => ?_))
    · exact ⟨hin, nm_r (zd_ea hc zd_b0) (nm_r (nI_1 i) (ih (i + 1) _ (by omega) (zd_Mfw h (zd_cf (fun t => t ha)))))⟩
    · exact ⟨hin, nm_r (zd_ea hc zd_b1) (nm_r (nI_1 i) (ih (i + 1) _ (by omega) (zd_Mfw h (zd_ct ha))))⟩
theorem zd_so01 (m : Nat → Int32) (z n i : Nat) : (zd_so m z n i = 0 ∧ zd_lo m z n i = -2000) ∨ zd_so m z n i = 1 := by
  unfold zd_so
  by_cases h : zd_lo m z n i = -2000
  · left
    exact ⟨if_pos h, h⟩
  · right
    exact if_neg h
theorem zd_any : zd_so m z 1000 0 + zd_so m y 1000 0 ≤ 0 → ∀ p, ¬ zd_H m z y p := by
  intro h p
  rcases zd_so01 m z 1000 0 with ⟨a, a'⟩ | a <;> rcases zd_so01 m y 1000 0 with ⟨b, b'⟩ | b <;> rw [a, b] at h
  · exact zd_H0 a' b'
  · exact absurd h (by decide)
  · exact absurd h (by decide)
  · exact absurd h (by decide)
end walkY
end
section
/-! the reference's move, reset, forget, and what it reads -/
section walkY2
variable {m md : Nat → Int32} {z y : Nat}
theorem zy_m58 {post : Int32 → SY → Prop} {J6 J35 : Int32 → (Nat → Int32) → (Nat → Int32) → Prop} {x1 x2 x3 : Int32} {q e : Nat} (hq : q < 1000) (he : e < 10) (K1 : (q % 10 = e ∨ q / 10 % 10 = e ∨ q / 100 = e) → J35 (-1) m md) (K0 : ¬ q % 10 = e → ¬ q / 10 % 10 = e → ¬ q / 100 = e → J35 (nI q + 111 * x2) m md) : wY_move_58 post J6 J35 x1 x2 x3 (nI q) (nI e) m md := by
  have g : (q % 10 = e ∨ q / 10 % 10 = e ∨ q / 100 = e) → wY_move_96 post J6 J35 x1 x2 x3 (nI q) m md := fun h => br_f (by decide) (K1 h)
  unfold wY_move_58
  refine zy_co (i := 1) (by omega) hq (pk_eq (q % 10) e (fun h => g (Or.inl h)) (fun h1 => ?_) rfl rfl (by omega) (by omega))
  refine zy_co (i := 2) (by omega) hq (pk_eq (q / 10 % 10) e (fun h => g (Or.inr (Or.inl h))) (fun h2 => ?_) rfl rfl (by omega) (by omega))
  refine zy_co (i := 3) (by omega) hq (pk_eq (q / 100) e (fun h => g (Or.inr (Or.inr h))) (fun h3 => ?_) rfl rfl (by omega) (by omega))
  exact br_t rfl (nm_e (K0 h1 h2 h3))
theorem zd_r19 {q : Nat} (h1 : ¬ q % 10 = 9) (h2 : ¬ q / 10 % 10 = 9) (h3 : ¬ q / 100 = 9) (hq : q < 1000) : zd_ri 1 q := by
  unfold zd_ri
  omega
theorem zd_r19n {q : Nat} (h : q % 10 = 9 ∨ q / 10 % 10 = 9 ∨ q / 100 = 9) : ¬ zd_ri 1 q := by
  unfold zd_ri
  omega
theorem zd_p111 (q : Nat) : nI q + 111 * 1 = nI (q + 111) := nI_add q 111
theorem zd_m111 (q : Nat) : nI (q + 111) + 111 * (-1) = nI q := by
  rw [← nI_add, Int32.add_assoc, show nI 111 + 111 * (-1) = 0 by decide, Int32.add_zero]
/-- upwards along the diagonal of p -/
theorem zy_up {post : Int32 → SY → Prop} {J6 : Int32 → (Nat → Int32) → (Nat → Int32) → Prop} {x1 x3 : Int32} {base : Nat → Prop} {p : Nat} (K : ∀ md', zd_M (fun q => base q ∨ zd_re p q) md' → J6 (x3 + 1) m md') : ∀ d t md, t + d = 9 → zd_ri t p → zd_M (fun q => base q ∨ ∃ s, s < t ∧ q = p + 111 * s) md → wY_move_35 post J6 x1 1 x3 (d + 2) (nI (p + 111 * t)) m md := by
  intro d
  induction d with
  | zero =>
    intro t md ht hr h
    obtain rfl : t = 9 := by omega
    have hl := zd_ri_lt hr
    have hM : zd_M (fun q => base q ∨ ∃ s, s < 9 + 1 ∧ q = p + 111 * s) (upd md (p + 111 * 9) 1) := by
      refine zd_Mst h (zd_ct (Or.inr ⟨9, by omega, rfl⟩)) (fun q _ hn => ?_)
      constructor
      · rintro (a | ⟨s, hs, e⟩)
        · exact Or.inl a
        · exact Or.inr ⟨s, by omega, e⟩
      · rintro (a | ⟨s, hs, e⟩)
        · exact Or.inl a
        · refine Or.inr ⟨s, ?_, e⟩
          by_cases hs9 : s = 9
          · subst hs9
            exact absurd e hn
          · omega
    refine br_f (nI_pos (by omega)) ⟨vp_in_nI hl (by decide), nm_r (zd_ea (nI_clamp (by omega)) zd_b1) (br_f (by decide) (zy_m58 (e := 9) hl (by omega) (fun hs => br_t (by decide) (nm_e (K _ (zd_Mif hM (fun q _ => ?_))))) (fun h1 h2 h3 => ?_)))⟩
    · rw [zd_upE hr (zd_r19n hs)]
    · have g := (zd_ri_1 hr).mp (zd_r19 h1 h2 h3 hl)
      have := g.1
      omega
  | succ d ih =>
    intro t md ht hr h
    have hl := zd_ri_lt hr
    have hM : zd_M (fun q => base q ∨ ∃ s, s < t + 1 ∧ q = p + 111 * s) (upd md (p + 111 * t) 1) := by
      refine zd_Mst h (zd_ct (Or.inr ⟨t, by omega, rfl⟩)) (fun q _ hn => ?_)
      constructor
      · rintro (a | ⟨s, hs, e⟩)
        · exact Or.inl a
        · exact Or.inr ⟨s, by omega, e⟩
      · rintro (a | ⟨s, hs, e⟩)
        · exact Or.inl a
        · refine Or.inr ⟨s, ?_, e⟩
          by_cases hst : s = t
          · subst hst
            exact absurd e hn
          · omega
    refine br_f (nI_pos (by omega)) ⟨vp_in_nI hl (by decide), nm_r (zd_ea (nI_clamp (by omega)) zd_b1) (br_f (by decide) (zy_m58 (e := 9) hl (by omega) (fun hs => br_t (by decide) (nm_e (K _ (zd_Mif hM (fun q _ => ?_))))) (fun h1 h2 h3 => ?_)))⟩
    · rw [zd_upE hr (zd_r19n hs)]
    · have g := (zd_ri_1 hr).mp (zd_r19 h1 h2 h3 hl)
      rw [zd_p111]
      exact ih (t + 1) _ (by omega) g hM
/-- downwards from p: the walk stands at q -/
theorem zy_dn {post : Int32 → SY → Prop} {J6 : Int32 → (Nat → Int32) → (Nat → Int32) → Prop} {x1 x3 : Int32} {base : Nat → Prop} {p : Nat} (hp : p < 1000) (K : ∀ md', zd_M (fun x => base x ∨ zd_re x p) md' → J6 (x3 + 1) m md') : ∀ d t q md, t + d = 9 → zd_ri t q → p = q + 111 * t → zd_M (fun x => base x ∨ ∃ s, s < t ∧ x + 111 * s = p) md → wY_move_35 post J6 x1 (-1) x3 (d + 2) (nI q) m md := by
  intro d
  induction d with
  | zero =>
    intro t q md ht hr e h
    obtain rfl : t = 9 := by omega
    have hl : q < 1000 := by omega
    have hM : zd_M (fun x => base x ∨ ∃ s, s < 9 + 1 ∧ x + 111 * s = p) (upd md q 1) := by
      refine zd_Mst h (zd_ct (Or.inr ⟨9, by omega, e.symm⟩)) (fun x _ hn => ?_)
      constructor
      · rintro (a | ⟨s, hs, e'⟩)
        · exact Or.inl a
        · exact Or.inr ⟨s, by omega, e'⟩
      · rintro (a | ⟨s, hs, e'⟩)
        · exact Or.inl a
        · refine Or.inr ⟨s, ?_, e'⟩
          by_cases hs9 : s = 9
          · omega
          · omega
    refine br_f (nI_pos (by omega)) ⟨vp_in_nI hl (by decide), nm_r (zd_ea (nI_clamp (by omega)) zd_b1) (br_t (by decide) (zy_m58 (e := 0) hl (by omega) (fun hs => br_t (by decide) (nm_e (K _ (zd_Mif hM (fun x _ => ?_))))) (fun h1 h2 h3 => ?_)))⟩
    · rw [zd_dnE hr e hs]
    · have g := (zd_dnS hr h1 h2 h3).2.1
      omega
  | succ d ih =>
    intro t q md ht hr e h
    have hl : q < 1000 := by omega
    have hM : zd_M (fun x => base x ∨ ∃ s, s < t + 1 ∧ x + 111 * s = p) (upd md q 1) := by
      refine zd_Mst h (zd_ct (Or.inr ⟨t, by omega, e.symm⟩)) (fun x _ hn => ?_)
      constructor
      · rintro (a | ⟨s, hs, e'⟩)
        · exact Or.inl a
        · exact Or.inr ⟨s, by omega, e'⟩
      · rintro (a | ⟨s, hs, e'⟩)
        · exact Or.inl a
        · refine Or.inr ⟨s, ?_, e'⟩
          by_cases hst : s = t
          · subst hst
            omega
          · omega
    refine br_f (nI_pos (by omega)) ⟨vp_in_nI hl (by decide), nm_r (zd_ea (nI_clamp (by omega)) zd_b1) (br_t (by decide) (zy_m58 (e := 0) hl (by omega) (fun hs => br_t (by decide) (nm_e (K _ (zd_Mif hM (fun x _ => ?_))))) (fun h1 h2 h3 => ?_)))⟩
    · rw [zd_dnE hr e hs]
    · obtain ⟨g1, g2⟩ := zd_dnS hr h1 h2 h3
      obtain ⟨b, rfl⟩ : ∃ b, q = b + 111 := ⟨q - 111, by omega⟩
      rw [Nat.add_sub_cancel] at g2
      rw [zd_m111]
      exact ih (t + 1) b _ (by omega) g2 (by omega) hM
theorem zy_move6 {post : Int32 → SY → Prop} {f : Nat → Prop} (up : Bool) {st : Int32} (hst : st = if up = true then 1 else -1) (hz : z < 4) (h0 : zd_01 m) (hf : ∀ p, p < 1000 → (¬ m (1000 * z + p) = 0 ↔ f p)) (K : ∀ B md', zd_Z m z (zd_mO up 1000 f) B → post (zd_so B z 1000 0) (B, md')) : ∀ d i md, i + d = 1000 → zd_M (zd_mO up i f) md → wY_move_6 post (nI z) st (d + 1) (nI i) m md := by
  intro d
  induction d with
  | zero =>
    intro i md hi h
    obtain rfl : i = 1000 := by omega
    exact br_t zd_e1000 (zy_take hz h0 h K)
  | succ d ih =>
    intro i md hi h
    have hp : i < 1000 := by omega
    have hc := zd_clY hz hp
    refine br_f (zd_m1000 hp) ⟨zd_inY hz hp, ?_⟩
    by_cases hm : m (1000 * z + i) = 0
    · refine br_t (zd_t hc hm) ⟨0 + 1, br_t (by decide) (nm_r (nI_1 i) (ih (i + 1) md (by omega) (zd_Mif h (fun q _ => zd_mOn ?_))))⟩
      exact fun t => (hf i hp).mpr t hm
    · have hfi := (hf i hp).mp hm
      refine br_f (zd_f hc hm) ?_
      have nx : ∀ md', zd_M (fun q => zd_mO up i f q ∨ zd_mY up i q) md' → wY_move_6 post (nI z) st (d + 1) (nI i + 1) m md' := by
        intro md' hM
        rw [nI_1]
        exact ih (i + 1) md' (by omega) (zd_Mif hM (fun q _ => (zd_mOs hfi).symm))
      cases up with
      | true =>
        subst hst
        exact ⟨9 + 2, zy_up (base := zd_mO true i f) (p := i) nx 9 0 md (by omega) (zd_ri0 hp) (zd_Mif h (fun q _ => ⟨Or.inl, fun t => t.elim id (fun ⟨s, hs, _⟩ => absurd hs (by omega))⟩))⟩
      | false =>
        subst hst
        exact ⟨9 + 2, zy_dn (base := zd_mO false i f) (p := i) hp nx 9 0 i md (by omega) (zd_ri0 hp) (by omega) (zd_Mif h (fun q _ => ⟨Or.inl, fun t => t.elim id (fun ⟨s, hs, _⟩ => absurd hs (by omega))⟩))⟩
theorem zy_move {post : Int32 → SY → Prop} (up : Bool) {st : Int32} (hst : st = if up = true then 1 else -1) (hz : z < 4) (h0 : zd_01 m) (K : ∀ B md', zd_Z m z (zd_mO up 1000 (fun p => ¬ m (1000 * z + p) = 0)) B → post (zd_so B z 1000 0) (B, md')) : wpY_move post (m, md) (nI z) st := by
  unfold wpY_move
  exact zy_clear (fun md' hM => ⟨1000 + 1, zy_move6 up hst hz h0 (fun _ _ => Iff.rfl) K 1000 0 md' (by omega) (zd_Mif hM (fun q _ => ⟨False.elim, zd_mO0⟩))⟩)
theorem zy_reset39 {post : Int32 → SY → Prop} {i c : Nat} (hz : z < 4) (ha : 1 ≤ i) (hb3 : i ≤ 3) (hc : c < 10) (h0 : zd_01 m) (K : ∀ B md', zd_Z m z (zd_R (fun p => ¬ m (1000 * z + p) = 0) i c) B → post (zd_so B z 1000 0) (B, md')) : ∀ d k md, k + d = 1000 → zd_M (zd_rY i c k (fun p => ¬ m (1000 * z + p) = 0)) md → wY_reset_39 post (nI z) (nI i) (nI c) (d + 1) (nI k) m md := by
  intro d
  induction d with
  | zero =>
    intro k md hk h
    obtain rfl : k = 1000 := by omega
    exact br_t zd_e1000 (zy_take hz h0 h K)
  | succ d ih =>
    intro k md hk h
    have hp : k < 1000 := by omega
    have hcl := zd_clY hz hp
    have hl := zd_wi_lt ha hb3 hp hc
    refine br_f (zd_m1000 hp) ⟨zd_inY hz hp, ?_⟩
    by_cases hm : m (1000 * z + k) = 0
    · exact br_t (zd_t hcl hm) (nm_r (nI_1 k) (ih (k + 1) md (by omega) (zd_rYk h (fun t => t hm))))
    · exact br_f (zd_f hcl hm) (zy_wi ha hb3 hp ⟨vp_in_nI hl (by decide), nm_r (zd_ea (nI_clamp (by omega)) zd_b1) (nm_r (nI_1 k) (ih (k + 1) _ (by omega) (zd_rYw h hm)))⟩)
theorem zy_forget38 {post : Int32 → SY → Prop} {J : Int32 → (Nat → Int32) → (Nat → Int32) → Prop} {f : Nat → Prop} {i k : Nat} (hz : z < 4) (ha : 1 ≤ i) (hb3 : i ≤ 3) (hk : k < 1000) (hm : ¬ m (1000 * z + k) = 0) (K : ∀ md', zd_M (zd_fY i k 10 f) md' → J (nI k + 1) m md') : ∀ d c md, c + d = 10 → zd_M (zd_fY i k c f) md → wY_forget_38 post J (nI z) (nI i) (nI k) (d + 1) (nI c) m md := by
  intro d
  induction d with
  | zero =>
    intro c md hc h
    obtain rfl : c = 10 := by omega
    exact br_t (nI_le (a := 10) (b := 10) (by omega) (by decide)) (nm_e (K md h))
  | succ d ih =>
    intro c md hc h
    have hc9 : c < 10 := by omega
    have hl := zd_wi_lt ha hb3 hk hc9
    exact br_f (nI_ge (b := 10) hc9 (by decide)) ⟨zd_inY hz hk, br_f (zd_f (zd_clY hz hk) hm) (zy_wi ha hb3 hk ⟨vp_in_nI hl (by decide), nm_r (zd_ea (nI_clamp (by omega)) zd_b1) (nm_r (nI_1 c) (ih (c + 1) _ (by omega) (zd_fYw h)))⟩)⟩
theorem zy_forget28 {post : Int32 → SY → Prop} {i : Nat} (hz : z < 4) (ha : 1 ≤ i) (hb3 : i ≤ 3) (h0 : zd_01 m) (K : ∀ B md', zd_Z m z (zd_F (fun p => ¬ m (1000 * z + p) = 0) i) B → post (zd_so B z 1000 0) (B, md')) : ∀ d k md, k + d = 1000 → zd_M (zd_fY i k 0 (fun p => ¬ m (1000 * z + p) = 0)) md → wY_forget_28 post (nI z) (nI i) (d + 1) (nI k) m md := by
  intro d
  induction d with
  | zero =>
    intro k md hk h
    obtain rfl : k = 1000 := by omega
    exact br_t zd_e1000 (zy_take hz h0 (zd_Mif h (fun _ _ => zd_fY1)) K)
  | succ d ih =>
    intro k md hk h
    have hp : k < 1000 := by omega
    have hcl := zd_clY hz hp
    refine br_f (zd_m1000 hp) ?_
    by_cases hm : m (1000 * z + k) = 0
    · exact ⟨0 + 1, br_f (by decide) ⟨zd_inY hz hp, br_t (zd_t hcl hm) (nm_r (nI_1 k) (ih (k + 1) md (by omega) (zd_Mif h (fun _ _ => zd_fYk (fun t => t hm)))))⟩⟩
    · refine ⟨10 + 1, zy_forget38 hz ha hb3 hp hm (fun md' hM => ?_) 10 0 md (by omega) h⟩
      rw [nI_1]
      exact ih (k + 1) md' (by omega) (zd_Mif hM (fun _ _ => zd_fYe hm))
theorem zy_count16 {post : Int32 → Prop} (hz : z < 4) (h : post (nI (zd_cn m z 1000))) : ∀ d i, i + d = 1000 → wY_count_16 post (nI z) m md (d + 1) (nI (zd_cn m z i)) (nI i) := by
  intro d
  induction d with
  | zero =>
    intro i hi
    obtain rfl : i = 1000 := by omega
    exact br_t zd_e1000 h
  | succ d ih =>
    intro i hi
    have hp : i < 1000 := by omega
    have hc := zd_clY hz hp
    have g := ih (i + 1) (by omega)
    unfold zd_cn at g
    refine br_f (zd_m1000 hp) ⟨zd_inY hz hp, ?_⟩
    by_cases hm : m (1000 * z + i) = 0
    · rw [if_pos hm] at g
      exact br_t (zd_t hc hm) (nm_r (nI_1 i) g)
    · rw [if_neg hm] at g
      exact br_f (zd_f hc hm) (nm_r (nI_1 (zd_cn m z i)) (nm_r (nI_1 i) g))
theorem zy_within20 {post : Int32 → Prop} (hz : z < 4) (hy : y < 4) (K : ∀ x, zd_c x (∀ p, p < 1000 → ¬ m (1000 * z + p) = 0 → ¬ m (1000 * y + p) = 0) → post x) : ∀ d i, i + d = 1000 → (∀ p, p < i → ¬ m (1000 * z + p) = 0 → ¬ m (1000 * y + p) = 0) → wY_within_20 post (nI z) (nI y) m md (d + 1) (nI i) := by
  intro d
  induction d with
  | zero =>
    intro i hi h
    obtain rfl : i = 1000 := by omega
    exact br_t zd_e1000 (K 1 (zd_ct h))
  | succ d ih =>
    intro i hi h
    have hp : i < 1000 := by omega
    have hc := zd_clY hz hp
    have hcy := zd_clY hy hp
    refine br_f (zd_m1000 hp) ⟨zd_inY hz hp, ?_⟩
    by_cases hm : m (1000 * z + i) = 0
    · exact br_t (zd_t hc hm) (nm_r (nI_1 i) (ih (i + 1) (by omega) (lt_s h (fun t => absurd hm t))))
    · refine br_f (zd_f hc hm) ⟨zd_inY hy hp, ?_⟩
      by_cases hn : m (1000 * y + i) = 0
      · exact br_t (zd_t hcy hn) (K 0 (zd_cf (fun t => t i hp hm hn)))
      · exact br_f (zd_f hcy hn) (nm_r (nI_1 i) (ih (i + 1) (by omega) (lt_s h (fun _ => hn))))
theorem zy_ms3 {post : Int32 → Prop} {d : Nat} (hz : z < 4) (hy : y < 4) (hd : d ≤ 9) (K : ∀ x, zd_c x (zd_T m z y d) → post x) : ∀ n i, i + n = 1000 → (∀ p, p < i → ¬ (¬ m (1000 * z + p) = 0 ∧ zd_ri d p ∧ ¬ m (1000 * y + (p + 111 * d)) = 0)) → wY_meets_3 post (nI z) (nI y) (nI d) m md (n + 1) (nI i) := by
  intro n
  induction n with
  | zero =>
    intro i hi h
    obtain rfl : i = 1000 := by omega
    exact br_t zd_e1000 (K 0 (zd_cf (fun ⟨p, hp, t⟩ => h p hp t)))
  | succ n ih =>
    intro i hi h
    have hp : i < 1000 := by omega
    have hc := zd_clY hz hp
    have no : ¬ zd_ri d i → wY_meets_57 post (wY_meets_3 post (nI z) (nI y) (nI d) m md (n + 1)) (nI z) (nI y) (nI d) (nI i) m md := fun t => br_t rfl (nm_r (nI_1 i) (ih (i + 1) (by omega) (lt_s h (fun g => t g.2.1))))
    refine br_f (zd_m1000 hp) ?_
    refine zy_co (i := 1) (by omega) hp (pk_le 10 (i % 10 + d) (fun h9 => no (fun t => ?_)) (fun h1 => ?_) rfl (nI_add (i % 10) d) (by omega) (by omega))
    · have := t.1
      omega
    refine zy_co (i := 2) (by omega) hp (pk_le 10 (i / 10 % 10 + d) (fun h9 => no (fun t => ?_)) (fun h2 => ?_) rfl (nI_add (i / 10 % 10) d) (by omega) (by omega))
    · have := t.2.1
      omega
    refine zy_co (i := 3) (by omega) hp (pk_le 10 (i / 100 + d) (fun h9 => no (fun t => ?_)) (fun h3 => ?_) rfl (nI_add (i / 100) d) (by omega) (by omega))
    · have := t.2.2
      omega
    have hri : zd_ri d i := ⟨by omega, by omega, by omega⟩
    have hl : i + 111 * d < 1000 := zd_ri_lt hri
    have e : 1000 * nI y + nI i + 111 * nI d = nI (1000 * y + (i + 111 * d)) := by
      rw [zd_xY, show 111 * nI d = nI (111 * d) from pk_mul 111 d, nI_add]
      exact congrArg nI (by omega)
    have hcy : (1000 * nI y + nI i + 111 * nI d).toNatClampNeg = 1000 * y + (i + 111 * d) := by rw [e]; exact zd_cl hy hl
    refine br_f (by decide) ⟨zd_inY hz hp, ?_⟩
    by_cases hm : m (1000 * z + i) = 0
    · exact br_t (zd_t hc hm) (nm_r (nI_1 i) (ih (i + 1) (by omega) (lt_s h (fun t => t.1 hm))))
    · refine br_f (zd_f hc hm) ⟨by rw [e]; exact zd_in hy hl, ?_⟩
      by_cases hn : m (1000 * y + (i + 111 * d)) = 0
      · exact br_t (zd_t hcy hn) (nm_r (nI_1 i) (ih (i + 1) (by omega) (lt_s h (fun t => t.2.2 hn))))
      · exact br_f (zd_f hcy hn) (K 1 (zd_ct ⟨i, hp, hm, hri, hn⟩))
theorem zy_ms {post : Int32 → Prop} {d : Nat} (hz : z < 4) (hy : y < 4) (hd : d ≤ 9) (K : ∀ x, zd_c x (zd_T m z y d) → post x) : wpY_meets post (m, md) (nI z) (nI y) (nI d) := ⟨1000 + 1, zy_ms3 hz hy hd K 1000 0 (by omega) (fun _ h => absurd h (by omega))⟩
theorem zy_meeting22 {post : Int32 → Prop} (hz : z < 4) (hy : y < 4) : ∀ n d, d + n = 10 → post (zd_me (zd_T m z y) n d) → wY_meeting_22 post (nI z) (nI y) m md (n + 1) (nI d) := by
  intro n
  induction n with
  | zero =>
    intro d hd h
    obtain rfl : d = 10 := by omega
    exact br_t (nI_le (a := 10) (b := 10) (by omega) (by decide)) h
  | succ n ih =>
    intro d hd h
    unfold zd_me at h
    refine br_f (nI_ge (b := 10) (by omega) (by decide)) (zy_ms hz hy (by omega) (fun x hx => br_c (fun hx0 => ?_) (fun hx0 => ?_)))
    · rw [if_neg ((zd_c0 hx).mp hx0)] at h
      exact nm_r (nI_1 d) (ih (d + 1) (by omega) h)
    · rw [if_pos ((zd_cn0 hx).mp hx0)] at h
      exact h
theorem zy_spread80 {post : Int32 → Prop} {s : Int32} (h : post (nI (zd_cs (zd_bm s) 19))) : ∀ n i, i + n = 19 → wY_spread_80 post s m md (n + 1) (nI (zd_cs (zd_bm s) i)) (nI i) := by
  intro n
  induction n with
  | zero =>
    intro i hi
    obtain rfl : i = 19 := by omega
    exact br_t (nI_le (a := 19) (b := 19) (by omega) (by decide)) h
  | succ n ih =>
    intro i hi
    have e : nI (zd_cs (zd_bm s) i) + ((s >>> (nI i &&& 31)) &&& 1) = nI (zd_cs (zd_bm s) (i + 1)) := by
      have u : zd_cs (zd_bm s) (i + 1) = if zd_bm s i = 0 then zd_cs (zd_bm s) i else zd_cs (zd_bm s) i + 1 := rfl
      rw [zd_bit (by omega), u]
      by_cases hb : bt s i = true
      · have g : ¬ zd_bm s i = 0 := by
          unfold zd_bm
          rw [if_pos hb]
          decide
        rw [if_pos hb, if_neg g]
        exact nI_1 _
      · have g : zd_bm s i = 0 := by
          unfold zd_bm
          rw [if_neg hb]
        rw [if_neg hb, if_pos g, Int32.add_zero]
    exact br_f (nI_ge (b := 19) (by omega) (by decide)) (nm_r e (nm_r (nI_1 i) (ih (i + 1) (by omega))))
theorem zy_spread25 {post : Int32 → Prop} {r : Nat} (hz : z < 4) (hr : r < 16) (K : ∀ s, (∀ d, d < 19 → (bt s d = true ↔ zd_S m z r 1000 d)) → post (nI (zd_cs (zd_bm s) 19))) : ∀ n i s, i + n = 1000 → (∀ d, d < 19 → (bt s d = true ↔ zd_S m z r i d)) → wY_spread_25 post (nI z) (nI r) m md (n + 1) s (nI i) := by
  intro n
  induction n with
  | zero =>
    intro i s hi h
    obtain rfl : i = 1000 := by omega
    exact br_t zd_e1000 ⟨19 + 1, zy_spread80 (K s h) 19 0 (by omega)⟩
  | succ n ih =>
    intro i s hi h
    have hp : i < 1000 := by omega
    have hc := zd_clY hz hp
    have hl := zd_d9_lt (r := r) hp
    refine br_f (zd_m1000 hp) ⟨zd_inY hz hp, ?_⟩
    by_cases hm : m (1000 * z + i) = 0
    · refine br_t (zd_t hc hm) (nm_r (nI_1 i) (ih (i + 1) s (by omega) (fun d hd => (h d hd).trans ?_)))
      rw [zd_S_s]
      exact ⟨Or.inl, fun t => t.elim id (fun t => absurd hm t.1)⟩
    · refine br_f (zd_f hc hm) (zy_di hr hp (nm_r (by rw [zd_d9I hp]) (nm_r (nI_1 i) (ih (i + 1) (s ||| ((1 : Int32) <<< (nI (zd_d9 r i) &&& 31))) (by omega) (fun d hd => ?_)))))
      rw [zd_btor (by omega) (by omega), h d hd, zd_S_s]
      constructor
      · rintro (t | t)
        · exact Or.inl t
        · exact Or.inr ⟨hm, t.symm⟩
      · rintro (t | t)
        · exact Or.inl t
        · exact Or.inr t.2.symm
end walkY2
end
section
/-! what is owed -/
/-- both sides mark the same points, and every mark is 0 or 1; what else they hold is filled anew by each call that reads it -/
def i_Rel (_ : Nat) (u : SX) (v : SY) : Prop := u.1 = v.1 ∧ zd_01 u.1
theorem i_up {k : Nat} {u : SX} {v : SY} (h : i_Rel k u v) : i_Rel (k + 4) u v := h
/-- the first n marks are set -/
def zd_I (n : Nat) : Nat → Int32 := fun j => if j < n then 1 else 0
theorem zd_I01 (n : Nat) : zd_01 (zd_I n) := by
  intro j
  unfold zd_I
  by_cases h : j < n
  · rw [if_pos h]
    exact Or.inr rfl
  · rw [if_neg h]
    exact Or.inl rfl
theorem zd_I0 : zd_I 0 = fun _ => 0 := by
  funext j
  exact if_neg (by omega)
theorem zd_Iu (n : Nat) : upd (zd_I n) n 1 = zd_I (n + 1) := by
  funext j
  by_cases h : j = n
  · subst h
    rw [pk_us]
    unfold zd_I
    rw [if_pos (by omega)]
  · rw [pk_un h]
    unfold zd_I
    by_cases h2 : j < n
    · rw [if_pos h2, if_pos (by omega)]
    · rw [if_neg h2, if_neg (by omega)]
theorem zd_IZ {z : Nat} {B : Nat → Int32} (h : zd_Z (zd_I (1000 * z)) z (fun _ => True) B) : B = zd_I (1000 * (z + 1)) := by
  refine zd_Zu h ⟨fun j hj => ?_, fun p hp => ?_⟩
  · unfold zd_I
    rcases hj with hj | hj
    · rw [if_pos (by omega), if_pos hj]
    · rw [if_neg (by omega), if_neg (by omega)]
  · unfold zd_I
    rw [if_pos (by omega)]
    exact zd_ct trivial
theorem zx_init31 {post : SX → Prop} (h : post (zd_I 4000, fun _ => 0, fun _ => 0)) : ∀ d z, z + d = 4 → wX_init_31 post (d + 1) (nI z) (zd_I (1000 * z)) (fun _ => 0) (fun _ => 0) := by
  intro d
  induction d with
  | zero =>
    intro z hz
    obtain rfl : z = 4 := by omega
    exact br_t (nI_le (a := 4) (b := 4) (by omega) (by decide)) h
  | succ d ih =>
    intro z hz
    have hz4 : z < 4 := by omega
    refine br_f (nI_ge (b := 4) hz4 (by decide)) (zx_mark hz4 (zd_I01 _) (fun B hB => ?_))
    have e := zd_IZ hB
    subst e
    exact nm_r (nI_1 z) (ih (z + 1) (by omega))
theorem zy_init24 {post : SY → Prop} (h : post (zd_I 4000, fun _ => 0)) : ∀ d i, i + d = 4000 → wY_init_24 post (d + 1) (nI i) (zd_I i) (fun _ => 0) := by
  intro d
  induction d with
  | zero =>
    intro i hi
    obtain rfl : i = 4000 := by omega
    exact br_t (nI_le (a := 4000) (b := 4000) (by omega) (by decide)) h
  | succ d ih =>
    intro i hi
    have hi4 : i < 4000 := by omega
    refine br_f (nI_ge (b := 4000) hi4 (by decide)) ⟨vp_in_nI hi4 (by decide), nm_r (zd_ea (nI_clamp (by omega)) zd_b1) ?_⟩
    rw [zd_Iu]
    exact nm_r (nI_1 i) (ih (i + 1) (by omega))
theorem i_vc0 : wpX_init (fun u => wpY_init (fun v => i_Rel 0 u v)) := by
  have gy : wpY_init (fun v => i_Rel 0 (zd_I 4000, fun _ => 0, fun _ => 0) v) := by
    have g := zy_init24 (post := fun v => i_Rel 0 (zd_I 4000, fun _ => 0, fun _ => 0) v) ⟨rfl, zd_I01 4000⟩ 4000 0 (by omega)
    rw [zd_I0] at g
    exact ⟨4000 + 1, g⟩
  have g := zx_init31 (post := fun u => wpY_init (fun v => i_Rel 0 u v)) gy 4 0 (by omega)
  rw [show 1000 * 0 = 0 from rfl, zd_I0] at g
  exact ⟨4 + 1, g⟩
section owed
variable {k : Nat} {m hb se md : Nat → Int32}
theorem zd_rel (h0 : zd_01 m) {z : Nat} {S : Nat → Prop} {B B' : Nat → Int32} {hb' se' md' : Nat → Int32} (h : zd_Z m z S B) (h' : zd_Z m z S B') : i_Rel k (B, hb', se') (B', md') := ⟨zd_Zu h h', zd_Z01 h h0⟩
theorem zd_ans {z : Nat} {S : Nat → Prop} {B B' : Nat → Int32} (h : zd_Z m z S B) (h' : zd_Z m z S B') : zd_so B' z 1000 0 = zd_so B z 1000 0 := by rw [zd_Zu h h']
end owed
theorem i_vc_fresh {k : Nat} {u : SX} {v : SY} (I : i_Rel k u v) (hk : k + 4 ≤ 2048) (v1 : Int32) : wpX_fresh (fun r u' => wpY_fresh (fun r' v' => r' = r ∧ i_Rel (k + 4) u' v') v v1) u v1 := by
  obtain ⟨m, hb, se⟩ := u
  obtain ⟨m', md⟩ := v
  obtain ⟨e, h0⟩ := I
  dsimp only at e h0
  subst e
  unfold wpX_fresh wpY_fresh
  dsimp only
  rcases zd_zone v1 with h | ⟨z, hz, rfl⟩
  · exact zx_iz (br_t h (zy_iz (br_t h ⟨rfl, rfl, h0⟩)))
  · refine zx_iz (br_f (zd_iz1 hz) (zx_mark hz h0 (fun B hB => ?_)))
    exact zy_iz (br_f (zd_iz1 hz) ⟨1000 + 1, zy_fresh14 hz (fun B' hB' => ⟨rfl, zd_rel h0 hB hB'⟩) 1000 0 m (by omega) (zd_Z0 h0)⟩)
theorem i_vc_copy {k : Nat} {u : SX} {v : SY} (I : i_Rel k u v) (hk : k + 4 ≤ 2048) (v1 : Int32) (v2 : Int32) : wpX_copy (fun r u' => wpY_copy (fun r' v' => r' = r ∧ i_Rel (k + 4) u' v') v v1 v2) u v1 v2 := by
  obtain ⟨m, hb, se⟩ := u
  obtain ⟨m', md⟩ := v
  obtain ⟨e, h0⟩ := I
  dsimp only at e h0
  subst e
  unfold wpX_copy wpY_copy
  dsimp only
  rcases zd_zone v1 with h | ⟨z, hz, rfl⟩
  · exact zx_iz (br_t h (zy_iz (br_t h ⟨rfl, rfl, h0⟩)))
  · have hz1 := zd_iz1 hz
    rcases zd_zone v2 with h | ⟨y, hy, rfl⟩
    · exact zx_iz (br_f hz1 (zx_iz (br_t h (zy_iz (br_f hz1 (zy_iz (br_t h ⟨rfl, rfl, h0⟩)))))))
    · have hy1 := zd_iz1 hy
      refine zx_iz (br_f hz1 (zx_iz (br_f hy1 ⟨1000 + 1, zx_copy20 hz hy h0 (fun B hB => ?_) 1000 0 m (by omega) (zd_Z0 h0)⟩)))
      exact zy_iz (br_f hz1 (zy_iz (br_f hy1 ⟨1000 + 1, zy_copy22 hz hy h0 (fun B' hB' => ⟨rfl, zd_rel h0 hB hB'⟩) 1000 0 m (by omega) (zd_Z0 h0)⟩)))
theorem i_vc_constrain {k : Nat} {u : SX} {v : SY} (I : i_Rel k u v) (hk : k + 4 ≤ 2048) (v1 : Int32) (v2 : Int32) (v3 : Int32) : wpX_constrain (fun r u' => wpY_constrain (fun r' v' => r' = r ∧ i_Rel (k + 4) u' v') v v1 v2 v3) u v1 v2 v3 := by
  obtain ⟨m, hb, se⟩ := u
  obtain ⟨m', md⟩ := v
  obtain ⟨e, h0⟩ := I
  dsimp only at e h0
  subst e
  unfold wpX_constrain wpY_constrain
  dsimp only
  rcases zd_zone v1 with h | ⟨z, hz, rfl⟩
  · exact zx_iz (br_t h (zy_iz (br_t h ⟨rfl, rfl, h0⟩)))
  · have hz1 := zd_iz1 hz
    rcases zd_pair v2 with h | ⟨r, hr, rfl, hr1⟩
    · exact zx_iz (br_f hz1 (zx_ip (br_t h (zy_iz (br_f hz1 (zy_ip (br_t h ⟨rfl, rfl, h0⟩)))))))
    · refine zx_iz (br_f hz1 (zx_ip (br_f hr1 (br_c (fun hc => ?_) (fun hc => br_c (fun hd => ?_) (fun hd => ?_))))))
      · exact zy_iz (br_f hz1 (zy_ip (br_f hr1 (br_t hc ⟨rfl, rfl, h0⟩))))
      · refine ⟨1000 + 1, zx_con33 hz hr (fun B hB => ?_) 1000 0 m (by omega) (zd_Z0 h0)⟩
        exact zy_iz (br_f hz1 (zy_ip (br_f hr1 (br_f hc (br_t hd ⟨1000 + 1, zy_con35 hz hr (fun B' hB' => ⟨zd_ans hB hB', zd_rel h0 hB hB'⟩) 1000 0 m (by omega) (zd_Z0 h0)⟩)))))
      · exact zy_iz (br_f hz1 (zy_ip (br_f hr1 (br_f hc (br_f hd ⟨rfl, rfl, h0⟩)))))
theorem i_vc_meet {k : Nat} {u : SX} {v : SY} (I : i_Rel k u v) (hk : k + 4 ≤ 2048) (v1 : Int32) (v2 : Int32) : wpX_meet (fun r u' => wpY_meet (fun r' v' => r' = r ∧ i_Rel (k + 4) u' v') v v1 v2) u v1 v2 := by
  obtain ⟨m, hb, se⟩ := u
  obtain ⟨m', md⟩ := v
  obtain ⟨e, h0⟩ := I
  dsimp only at e h0
  subst e
  unfold wpX_meet wpY_meet
  dsimp only
  rcases zd_zone v1 with h | ⟨z, hz, rfl⟩
  · exact zx_iz (br_t h (zy_iz (br_t h ⟨rfl, rfl, h0⟩)))
  · have hz1 := zd_iz1 hz
    rcases zd_zone v2 with h | ⟨y, hy, rfl⟩
    · exact zx_iz (br_f hz1 (zx_iz (br_t h (zy_iz (br_f hz1 (zy_iz (br_t h ⟨rfl, rfl, h0⟩)))))))
    · have hy1 := zd_iz1 hy
      refine zx_iz (br_f hz1 (zx_iz (br_f hy1 ⟨1000 + 1, zx_meet20 hz hy h0 (fun B hB => ?_) 1000 0 m (by omega) (zd_Z0 h0)⟩)))
      exact zy_iz (br_f hz1 (zy_iz (br_f hy1 ⟨1000 + 1, zy_meet22 hz hy h0 (fun B' hB' => ⟨zd_ans hB hB', zd_rel h0 hB hB'⟩) 1000 0 m (by omega) (zd_Z0 h0)⟩)))
theorem i_vc_hull {k : Nat} {u : SX} {v : SY} (I : i_Rel k u v) (hk : k + 4 ≤ 2048) (v1 : Int32) (v2 : Int32) : wpX_hull (fun r u' => wpY_hull (fun r' v' => r' = r ∧ i_Rel (k + 4) u' v') v v1 v2) u v1 v2 := by
  obtain ⟨m, hb, se⟩ := u
  obtain ⟨m', md⟩ := v
  obtain ⟨e, h0⟩ := I
  dsimp only at e h0
  subst e
  unfold wpX_hull wpY_hull
  dsimp only
  rcases zd_zone v1 with h | ⟨z, hz, rfl⟩
  · exact zx_iz (br_t h (zy_iz (br_t h ⟨rfl, rfl, h0⟩)))
  · have hz1 := zd_iz1 hz
    rcases zd_zone v2 with h | ⟨y, hy, rfl⟩
    · exact zx_iz (br_f hz1 (zx_iz (br_t h (zy_iz (br_f hz1 (zy_iz (br_t h ⟨rfl, rfl, h0⟩)))))))
    · have hy1 := zd_iz1 hy
      refine zx_iz (br_f hz1 (zx_iz (br_f hy1 ⟨16 + 1, zx_hull20 hz hy h0 (fun B hb' hB => ?_) 16 0 hb (by omega) (fun _ t => absurd t (by omega))⟩)))
      exact zy_iz (br_f hz1 (zy_iz (br_f hy1 (zy_so hz (zy_so hy (nm_e ⟨1000 + 1, zy_hull35 hz hy h0 zd_any (fun B' md' hB' => ⟨zd_ans hB hB', zd_rel h0 hB hB'⟩) 1000 0 md (by omega) zd_Mf0⟩))))))
theorem i_vc_delay {k : Nat} {u : SX} {v : SY} (I : i_Rel k u v) (hk : k + 4 ≤ 2048) (v1 : Int32) : wpX_delay (fun r u' => wpY_delay (fun r' v' => r' = r ∧ i_Rel (k + 4) u' v') v v1) u v1 := by
  obtain ⟨m, hb, se⟩ := u
  obtain ⟨m', md⟩ := v
  obtain ⟨e, h0⟩ := I
  dsimp only at e h0
  subst e
  unfold wpX_delay wpY_delay
  dsimp only
  rcases zd_zone v1 with h | ⟨z, hz, rfl⟩
  · exact zx_iz (br_t h (zy_iz (br_t h ⟨rfl, rfl, h0⟩)))
  · have hz1 := zd_iz1 hz
    refine zx_iz (br_f hz1 ⟨1000 + 1, zx_delay13 hz (fun B hB => ?_) 1000 0 m (by omega) (zd_Zif (zd_Zrf h0) (fun q _ => zd_dX0 (f := fun p => ¬ m (1000 * z + p) = 0)))⟩)
    exact zy_iz (br_f hz1 (zy_move true rfl hz h0 (fun B' md' hB' => ⟨zd_ans hB hB', zd_rel h0 hB hB'⟩)))
theorem i_vc_past {k : Nat} {u : SX} {v : SY} (I : i_Rel k u v) (hk : k + 4 ≤ 2048) (v1 : Int32) : wpX_past (fun r u' => wpY_past (fun r' v' => r' = r ∧ i_Rel (k + 4) u' v') v v1) u v1 := by
  obtain ⟨m, hb, se⟩ := u
  obtain ⟨m', md⟩ := v
  obtain ⟨e, h0⟩ := I
  dsimp only at e h0
  subst e
  unfold wpX_past wpY_past
  dsimp only
  rcases zd_zone v1 with h | ⟨z, hz, rfl⟩
  · exact zx_iz (br_t h (zy_iz (br_t h ⟨rfl, rfl, h0⟩)))
  · have hz1 := zd_iz1 hz
    refine zx_iz (br_f hz1 ⟨888 + 2, zx_past15 (f := fun p => ¬ m (1000 * z + p) = 0) hz (fun B hB => ?_) 888 m (by omega) (zd_Zif (zd_Zrf h0) (fun q hq => zd_pX0 (f := fun p => ¬ m (1000 * z + p) = 0) hq))⟩)
    exact zy_iz (br_f hz1 (zy_move false rfl hz h0 (fun B' md' hB' => ⟨zd_ans hB hB', zd_rel h0 hB hB'⟩)))
end
section
/-! what is owed, the rest -/
theorem zd_coord {x : Int32} (h1 : ¬ x < 1) (h3 : ¬ 3 < x) : ∃ i, 1 ≤ i ∧ i ≤ 3 ∧ x = nI i := by
  obtain ⟨i, hi, rfl⟩ := nI_of2 (x := x) (M := 3) (n := 3) (by decide) (fun h => h1 (Int32.lt_trans h (by decide))) (Int32.not_lt.mp h3)
  refine ⟨i, ?_, hi, rfl⟩
  by_cases h : i = 0
  · subst h
    exact absurd (by decide) h1
  · omega
theorem i_vc_reset {k : Nat} {u : SX} {v : SY} (I : i_Rel k u v) (hk : k + 4 ≤ 2048) (v1 : Int32) (v2 : Int32) (v3 : Int32) : wpX_reset (fun r u' => wpY_reset (fun r' v' => r' = r ∧ i_Rel (k + 4) u' v') v v1 v2 v3) u v1 v2 v3 := by
  obtain ⟨m, hb, se⟩ := u
  obtain ⟨m', md⟩ := v
  obtain ⟨e, h0⟩ := I
  dsimp only at e h0
  subst e
  unfold wpX_reset wpY_reset
  dsimp only
  rcases zd_zone v1 with h | ⟨z, hz, rfl⟩
  · exact zx_iz (br_t h (zy_iz (br_t h ⟨rfl, rfl, h0⟩)))
  · have hz1 := zd_iz1 hz
    refine zx_iz (br_f hz1 (br_c (fun h1 => br_t rfl ?_) (fun h1 => br_c (fun h3 => br_t rfl ?_) (fun h3 => br_f (by decide) (br_c (fun hc => ?_) (fun hc => br_c (fun hd => ?_) (fun hd => ?_)))))))
    · exact zy_iz (br_f hz1 (br_t h1 ⟨rfl, rfl, h0⟩))
    · exact zy_iz (br_f hz1 (br_f h1 (br_t h3 ⟨rfl, rfl, h0⟩)))
    · exact zy_iz (br_f hz1 (br_f h1 (br_f h3 (br_t hc ⟨rfl, rfl, h0⟩))))
    · obtain ⟨i, ha, hb3, rfl⟩ := zd_coord h1 h3
      obtain ⟨c, hc9, rfl⟩ := nI_of2 (x := v3) (M := 9) (n := 9) (by decide) hc hd
      have hc10 : c < 10 := by omega
      refine zx_w ha hb3 ⟨1000 + 1, zx_reset37 (f := fun p => ¬ m (1000 * z + p) = 0) hz ha hb3 hc10 (fun B hB => ?_) 1000 0 m (by omega) (zd_Zif (zd_Zrf h0) (fun q _ => zd_rX0 (f := fun p => ¬ m (1000 * z + p) = 0)))⟩
      refine zy_iz (br_f hz1 (br_f h1 (br_f h3 (br_f hc (br_t hd (zy_clear (fun md' hM => ⟨1000 + 1, zy_reset39 hz ha hb3 hc10 h0 (fun B' md'' hB' => ⟨zd_ans hB hB', zd_rel h0 hB hB'⟩) 1000 0 md' (by omega) (zd_Mif hM (fun q _ => ⟨False.elim, fun ⟨_, t, _⟩ => absurd t (by omega)⟩))⟩)))))))
    · exact zy_iz (br_f hz1 (br_f h1 (br_f h3 (br_f hc (br_f hd ⟨rfl, rfl, h0⟩)))))
theorem i_vc_forget {k : Nat} {u : SX} {v : SY} (I : i_Rel k u v) (hk : k + 4 ≤ 2048) (v1 : Int32) (v2 : Int32) : wpX_forget (fun r u' => wpY_forget (fun r' v' => r' = r ∧ i_Rel (k + 4) u' v') v v1 v2) u v1 v2 := by
  obtain ⟨m, hb, se⟩ := u
  obtain ⟨m', md⟩ := v
  obtain ⟨e, h0⟩ := I
  dsimp only at e h0
  subst e
  unfold wpX_forget wpY_forget
  dsimp only
  rcases zd_zone v1 with h | ⟨z, hz, rfl⟩
  · exact zx_iz (br_t h (zy_iz (br_t h ⟨rfl, rfl, h0⟩)))
  · have hz1 := zd_iz1 hz
    refine zx_iz (br_f hz1 (br_c (fun h1 => br_t rfl ?_) (fun h1 => br_c (fun h3 => br_t rfl ?_) (fun h3 => br_f (by decide) ?_))))
    · exact zy_iz (br_f hz1 (br_t h1 ⟨rfl, rfl, h0⟩))
    · exact zy_iz (br_f hz1 (br_f h1 (br_f (Int32.not_le.mpr h3) ⟨rfl, rfl, h0⟩)))
    · have h3' := Int32.not_lt.mp h3
      obtain ⟨i, ha, hb3, rfl⟩ := zd_coord h1 h3
      refine zx_w ha hb3 ⟨1000 + 1, zx_forget26 (f := fun p => ¬ m (1000 * z + p) = 0) hz ha hb3 (fun B hB => ?_) 1000 0 m (by omega) (zd_Zif (zd_Zrf h0) (fun q _ => zd_fX0 (f := fun p => ¬ m (1000 * z + p) = 0)))⟩
      refine zy_iz (br_f hz1 (br_f h1 (br_t h3' (zy_clear (fun md' hM => ⟨1000 + 1, zy_forget28 hz ha hb3 h0 (fun B' md'' hB' => ⟨zd_ans hB hB', zd_rel h0 hB hB'⟩) 1000 0 md' (by omega) (zd_Mif hM (fun q _ => ⟨False.elim, ?_⟩))⟩)))))
      rintro (⟨_, t, _⟩ | ⟨_, t, _⟩)
      · omega
      · omega
theorem i_vc_empty {k : Nat} {u : SX} {v : SY} (I : i_Rel k u v) (hk : k + 4 ≤ 2048) (v1 : Int32) : wpX_empty (fun r => wpY_empty (fun r' => r' = r ∧ i_Rel (k + 4) u v) v v1) u v1 := by
  obtain ⟨m, hb, se⟩ := u
  obtain ⟨m', md⟩ := v
  have I4 : i_Rel (k + 4) (m, hb, se) (m', md) := I
  obtain ⟨e, h0⟩ := I
  dsimp only at e h0
  subst e
  unfold wpX_empty wpY_empty
  dsimp only
  rcases zd_zone v1 with h | ⟨z, hz, rfl⟩
  · exact zx_iz (br_t h (zy_iz (br_t h ⟨rfl, I4⟩)))
  · have hz1 := zd_iz1 hz
    refine zx_iz (br_f hz1 (zx_lo hz (br_c (fun e => ?_) (fun e => ?_))))
    · exact zy_iz (br_f hz1 (zy_so hz (br_t (if_pos e) ⟨rfl, I4⟩)))
    · exact zy_iz (br_f hz1 (zy_so hz (br_f (by unfold zd_so; rw [if_neg e]; decide) ⟨rfl, I4⟩)))
theorem i_vc_has {k : Nat} {u : SX} {v : SY} (I : i_Rel k u v) (hk : k + 4 ≤ 2048) (v1 : Int32) (v2 : Int32) : wpX_has (fun r => wpY_has (fun r' => r' = r ∧ i_Rel (k + 4) u v) v v1 v2) u v1 v2 := by
  obtain ⟨m, hb, se⟩ := u
  obtain ⟨m', md⟩ := v
  have I4 : i_Rel (k + 4) (m, hb, se) (m', md) := I
  obtain ⟨e, h0⟩ := I
  dsimp only at e h0
  subst e
  unfold wpX_has wpY_has
  dsimp only
  rcases zd_zone v1 with h | ⟨z, hz, rfl⟩
  · exact zx_iz (br_t h (zy_iz (br_t h ⟨rfl, I4⟩)))
  · have hz1 := zd_iz1 hz
    refine zx_iz (br_f hz1 (br_c (fun h1 => ?_) (fun h1 => br_c (fun h2 => ?_) (fun h2 => ?_))))
    · exact zy_iz (br_f hz1 (br_t h1 ⟨rfl, I4⟩))
    · exact zy_iz (br_f hz1 (br_f h1 (br_t ((zd_g999 v2).mpr h2) ⟨rfl, I4⟩)))
    · have h2' : ¬ 999 < v2 := fun t => h2 ((zd_g999 v2).mp t)
      obtain ⟨p, hp, rfl⟩ : ∃ p, p < 1000 ∧ v2 = nI p := by
        rcases pk_ix v2 (n := 1000) (by omega) with t | t | t
        · exact absurd t h1
        · exact absurd t h2
        · exact t
      refine ⟨zd_inX hz hp, br_c (fun hm => ?_) (fun hm => ?_)⟩
      · rw [zd_clX hz hp] at hm
        exact zy_iz (br_f hz1 (br_f h1 (br_f h2' ⟨zd_inY hz hp, br_t (zd_t (zd_clY hz hp) hm) ⟨rfl, I4⟩⟩)))
      · rw [zd_clX hz hp] at hm
        exact zy_iz (br_f hz1 (br_f h1 (br_f h2' ⟨zd_inY hz hp, br_f (zd_f (zd_clY hz hp) hm) ⟨rfl, I4⟩⟩)))
theorem i_vc_bound {k : Nat} {u : SX} {v : SY} (I : i_Rel k u v) (hk : k + 4 ≤ 2048) (v1 : Int32) (v2 : Int32) : wpX_bound (fun r => wpY_bound (fun r' => r' = r ∧ i_Rel (k + 4) u v) v v1 v2) u v1 v2 := by
  obtain ⟨m, hb, se⟩ := u
  obtain ⟨m', md⟩ := v
  have I4 : i_Rel (k + 4) (m, hb, se) (m', md) := I
  obtain ⟨e, h0⟩ := I
  dsimp only at e h0
  subst e
  unfold wpX_bound wpY_bound
  dsimp only
  rcases zd_zone v1 with h | ⟨z, hz, rfl⟩
  · exact zx_iz (br_t h (zy_iz (br_t h ⟨rfl, I4⟩)))
  · have hz1 := zd_iz1 hz
    rcases zd_pair v2 with h | ⟨r, hr, rfl, hr1⟩
    · exact zx_iz (br_f hz1 (zx_ip (br_t h (zy_iz (br_f hz1 (zy_ip (br_t h ⟨rfl, I4⟩)))))))
    · exact zx_iz (br_f hz1 (zx_ip (br_f hr1 (zx_gr hz hr (zy_iz (br_f hz1 (zy_ip (br_f hr1 (zy_gr hz hr ⟨rfl, I4⟩)))))))))
theorem i_vc_count {k : Nat} {u : SX} {v : SY} (I : i_Rel k u v) (hk : k + 4 ≤ 2048) (v1 : Int32) : wpX_count (fun r => wpY_count (fun r' => r' = r ∧ i_Rel (k + 4) u v) v v1) u v1 := by
  obtain ⟨m, hb, se⟩ := u
  obtain ⟨m', md⟩ := v
  have I4 : i_Rel (k + 4) (m, hb, se) (m', md) := I
  obtain ⟨e, h0⟩ := I
  dsimp only at e h0
  subst e
  unfold wpX_count wpY_count
  dsimp only
  rcases zd_zone v1 with h | ⟨z, hz, rfl⟩
  · exact zx_iz (br_t h (zy_iz (br_t h ⟨rfl, I4⟩)))
  · have hz1 := zd_iz1 hz
    refine zx_iz (br_f hz1 ⟨1000 + 1, zx_count15 hz ?_ 1000 0 (by omega)⟩)
    refine zy_iz (br_f hz1 ⟨1000 + 1, zy_count16 hz ?_ 1000 0 (by omega)⟩)
    exact ⟨rfl, I4⟩
theorem i_vc_within {k : Nat} {u : SX} {v : SY} (I : i_Rel k u v) (hk : k + 4 ≤ 2048) (v1 : Int32) (v2 : Int32) : wpX_within (fun r => wpY_within (fun r' => r' = r ∧ i_Rel (k + 4) u v) v v1 v2) u v1 v2 := by
  obtain ⟨m, hb, se⟩ := u
  obtain ⟨m', md⟩ := v
  have I4 : i_Rel (k + 4) (m, hb, se) (m', md) := I
  obtain ⟨e, h0⟩ := I
  dsimp only at e h0
  subst e
  unfold wpX_within wpY_within
  dsimp only
  rcases zd_zone v1 with h | ⟨z, hz, rfl⟩
  · exact zx_iz (br_t h (zy_iz (br_t h ⟨rfl, I4⟩)))
  · have hz1 := zd_iz1 hz
    rcases zd_zone v2 with h | ⟨y, hy, rfl⟩
    · exact zx_iz (br_f hz1 (zx_iz (br_t h (zy_iz (br_f hz1 (zy_iz (br_t h ⟨rfl, I4⟩)))))))
    · have hy1 := zd_iz1 hy
      exact zx_iz (br_f hz1 (zx_iz (br_f hy1 ⟨1000 + 1, zx_within18 hz hy (fun x hx => zy_iz (br_f hz1 (zy_iz (br_f hy1 ⟨1000 + 1, zy_within20 hz hy (fun x' hx' => ⟨zd_ceq hx' hx, I4⟩) 1000 0 (by omega) (fun _ t => absurd t (by omega))⟩)))) 1000 0 (by omega) (fun _ t => absurd t (by omega))⟩)))
theorem i_vc_touches {k : Nat} {u : SX} {v : SY} (I : i_Rel k u v) (hk : k + 4 ≤ 2048) (v1 : Int32) (v2 : Int32) : wpX_touches (fun r => wpY_touches (fun r' => r' = r ∧ i_Rel (k + 4) u v) v v1 v2) u v1 v2 := by
  obtain ⟨m, hb, se⟩ := u
  obtain ⟨m', md⟩ := v
  have I4 : i_Rel (k + 4) (m, hb, se) (m', md) := I
  obtain ⟨e, h0⟩ := I
  dsimp only at e h0
  subst e
  unfold wpX_touches wpY_touches
  dsimp only
  rcases zd_zone v1 with h | ⟨z, hz, rfl⟩
  · exact zx_iz (br_t h (zy_iz (br_t h ⟨rfl, I4⟩)))
  · have hz1 := zd_iz1 hz
    rcases zd_zone v2 with h | ⟨y, hy, rfl⟩
    · exact zx_iz (br_f hz1 (zx_iz (br_t h (zy_iz (br_f hz1 (zy_iz (br_t h ⟨rfl, I4⟩)))))))
    · have hy1 := zd_iz1 hy
      refine zx_iz (br_f hz1 (zx_iz (br_f hy1 (zx_tw (d := 0) hz hy (by omega) (fun x hx => br_c (fun hx0 => ?_) (fun hx0 => ?_))))))
      · exact zy_iz (br_f hz1 (zy_iz (br_f hy1 (zy_ms (d := 0) hz hy (by omega) (fun x' hx' => br_t ((zd_ceq hx' hx).trans hx0) ⟨rfl, I4⟩)))))
      · exact zy_iz (br_f hz1 (zy_iz (br_f hy1 (zy_ms (d := 0) hz hy (by omega) (fun x' hx' => br_f (fun t => hx0 ((zd_ceq hx hx').trans t)) ⟨rfl, I4⟩)))))
theorem i_vc_least {k : Nat} {u : SX} {v : SY} (I : i_Rel k u v) (hk : k + 4 ≤ 2048) (v1 : Int32) : wpX_least (fun r => wpY_least (fun r' => r' = r ∧ i_Rel (k + 4) u v) v v1) u v1 := by
  obtain ⟨m, hb, se⟩ := u
  obtain ⟨m', md⟩ := v
  have I4 : i_Rel (k + 4) (m, hb, se) (m', md) := I
  obtain ⟨e, h0⟩ := I
  dsimp only at e h0
  subst e
  unfold wpX_least wpY_least
  dsimp only
  rcases zd_zone v1 with h | ⟨z, hz, rfl⟩
  · exact zx_iz (br_t h (zy_iz (br_t h ⟨rfl, I4⟩)))
  · have hz1 := zd_iz1 hz
    exact zx_iz (br_f hz1 (zx_lo hz (zy_iz (br_f hz1 ⟨1000 + 1, zy_least14 hz 1000 0 (by omega) ⟨rfl, I4⟩⟩))))
theorem i_vc_spread {k : Nat} {u : SX} {v : SY} (I : i_Rel k u v) (hk : k + 4 ≤ 2048) (v1 : Int32) (v2 : Int32) : wpX_spread (fun r u' => wpY_spread (fun r' => r' = r ∧ i_Rel (k + 4) u' v) v v1 v2) u v1 v2 := by
  obtain ⟨m, hb, se⟩ := u
  obtain ⟨m', md⟩ := v
  obtain ⟨e, h0⟩ := I
  dsimp only at e h0
  subst e
  unfold wpX_spread wpY_spread
  dsimp only
  rcases zd_zone v1 with h | ⟨z, hz, rfl⟩
  · exact zx_iz (br_t h (zy_iz (br_t h ⟨rfl, rfl, h0⟩)))
  · have hz1 := zd_iz1 hz
    rcases zd_pair v2 with h | ⟨r, hr, rfl, hr1⟩
    · exact zx_iz (br_f hz1 (zx_ip (br_t h (zy_iz (br_f hz1 (zy_ip (br_t h ⟨rfl, rfl, h0⟩)))))))
    · refine zx_iz (br_f hz1 (zx_ip (br_f hr1 ⟨19 + 1, zx_spread20 hz hr (fun se' hS => ?_) 19 0 se (by omega) (fun _ t => absurd t (by omega))⟩)))
      refine zy_iz (br_f hz1 (zy_ip (br_f hr1 ⟨1000 + 1, zy_spread25 hz hr (fun s hs => ⟨congrArg nI (zd_cs_if 19 (fun d hd => ?_)), rfl, h0⟩) 1000 0 0 (by omega) (fun d _ => ⟨fun t => absurd (b_0 d) (by rw [t]; decide), fun t => absurd t zd_S_0⟩)⟩)))
      rw [zd_c0 (hS d hd), ← hs d hd]
      unfold zd_bm
      by_cases hb1 : bt s d = true
      · rw [if_pos hb1]
        exact ⟨fun t => absurd t (by decide), fun t => absurd hb1 t⟩
      · rw [if_neg hb1]
        exact ⟨fun _ => hb1, fun _ => rfl⟩
theorem i_vc_meeting {k : Nat} {u : SX} {v : SY} (I : i_Rel k u v) (hk : k + 4 ≤ 2048) (v1 : Int32) (v2 : Int32) : wpX_meeting (fun r => wpY_meeting (fun r' => r' = r ∧ i_Rel (k + 4) u v) v v1 v2) u v1 v2 := by
  obtain ⟨m, hb, se⟩ := u
  obtain ⟨m', md⟩ := v
  have I4 : i_Rel (k + 4) (m, hb, se) (m', md) := I
  obtain ⟨e, h0⟩ := I
  dsimp only at e h0
  subst e
  unfold wpX_meeting wpY_meeting
  dsimp only
  rcases zd_zone v1 with h | ⟨z, hz, rfl⟩
  · exact zx_iz (br_t h (zy_iz (br_t h ⟨rfl, I4⟩)))
  · have hz1 := zd_iz1 hz
    rcases zd_zone v2 with h | ⟨y, hy, rfl⟩
    · exact zx_iz (br_f hz1 (zx_iz (br_t h (zy_iz (br_f hz1 (zy_iz (br_t h ⟨rfl, I4⟩)))))))
    · have hy1 := zd_iz1 hy
      exact zx_iz (br_f hz1 (zx_iz (br_f hy1 ⟨10 + 1, zx_meeting20 hz hy 10 0 (by omega) (zy_iz (br_f hz1 (zy_iz (br_f hy1 ⟨10 + 1, zy_meeting22 hz hy 10 0 (by omega) ⟨rfl, I4⟩⟩))))⟩)))
end
