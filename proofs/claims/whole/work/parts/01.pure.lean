/-! numbers (pk_ rows as the kit gives them for pasting), cells that are 0 or 1, zones as sets of points -/
theorem pk_us {f : Nat → Int32} {k : Nat} {x : Int32} : upd f k x k = x := if_pos rfl
theorem pk_un {f : Nat → Int32} {k j : Nat} {x : Int32} (h : j ≠ k) : upd f k x j = f j := if_neg h
theorem pk_sub {a b : Nat} (h : b ≤ a) : nI a - nI b = nI (a - b) := by
  obtain ⟨c, rfl⟩ : ∃ c, a = c + b := ⟨a - b, by omega⟩
  rw [← nI_add, Int32.add_sub_cancel, Nat.add_sub_cancel]
theorem pk_m1 (n : Nat) : nI (n + 1) + (-1) = nI n := by
  rw [← nI_1, Int32.add_assoc, show (1 : Int32) + (-1) = 0 from rfl, Int32.add_zero]
theorem pk_mul (a b : Nat) : nI a * nI b = nI (a * b) := (Int32.ofNat_mul a b).symm
theorem pk_div {a d : Nat} (ha : a < 2 ^ 31) (h0 : 0 < d) (hd : d < 2 ^ 31) : nI a / nI d = nI (a / d) := by
  apply Int32.toInt_inj.mp
  rw [lg_idiv_nonneg (by rw [nI_toInt ha]; omega) (by rw [nI_toInt hd]; omega), nI_toInt ha, nI_toInt hd, nI_toInt (Nat.lt_of_le_of_lt (Nat.div_le_self a d) ha)]
  first | rfl | exact (Int.natCast_ediv _ _).symm
theorem pk_rem {a d : Nat} (ha : a < 2 ^ 31) (h0 : 0 < d) (hd : d < 2 ^ 31) : nI a - nI a / nI d * nI d = nI (a % d) := by
  rw [pk_div ha h0 hd, pk_mul, pk_sub (Nat.div_mul_le_self a d)]
  exact congrArg nI (by have := Nat.div_add_mod' a d; omega)
theorem pk_sub_toInt {a b : Nat} (ha : a < 2 ^ 30) (hb : b < 2 ^ 30) : (nI a - nI b).toInt = (a : Int) - b := by
  rw [Int32.toInt_sub, nI_toInt (by omega), nI_toInt (by omega)]
  exact Int.bmod_eq_of_le (by omega) (by omega)
theorem pk_le {x y : Int32} {A B : Prop} (a b : Nat) (f : a ≤ b → A) (g : b < a → B) (hx : x = nI a := by rfl) (hy : y = nI b := by rfl) (ha : a < 2 ^ 31 := by omega) (hb : b < 2 ^ 31 := by omega) : (x ≤ y → A) ∧ (¬ x ≤ y → B) := by
  subst hx hy
  rw [nI_leI ha hb]
  exact ⟨f, fun z => g (by omega)⟩
theorem pk_lt {x y : Int32} {A B : Prop} (a b : Nat) (f : a < b → A) (g : b ≤ a → B) (hx : x = nI a := by rfl) (hy : y = nI b := by rfl) (ha : a < 2 ^ 31 := by omega) (hb : b < 2 ^ 31 := by omega) : (x < y → A) ∧ (¬ x < y → B) := by
  subst hx hy
  rw [nI_ltI ha hb]
  exact ⟨f, fun z => g (by omega)⟩
theorem pk_eq {x y : Int32} {A B : Prop} (a b : Nat) (f : a = b → A) (g : a ≠ b → B) (hx : x = nI a := by rfl) (hy : y = nI b := by rfl) (ha : a < 2 ^ 31 := by omega) (hb : b < 2 ^ 31 := by omega) : (x = y → A) ∧ (¬ x = y → B) := by
  subst hx hy
  rw [nI_eq ha hb]
  exact ⟨f, g⟩
theorem pk_in {x : Int32} (n N : Nat) (h : n < N) (hx : x = nI n := by rfl) (hN : N < 2 ^ 31 := by omega) : vp_in x N := by
  subst hx
  exact vp_in_nI h hN
theorem pk_cl {x : Int32} (n : Nat) (hx : x = nI n := by rfl) (h : n < 2 ^ 31 := by omega) : x.toNatClampNeg = n := by
  subst hx
  exact nI_clamp h
theorem pk_ix (x : Int32) {n : Nat} (hn : n < 2 ^ 31) : x < 0 ∨ nI n ≤ x ∨ ∃ j : Nat, j < n ∧ x = nI j := by
  by_cases h : x < 0
  · exact Or.inl h
  · obtain ⟨j, hj, rfl⟩ := nI_of h
    by_cases h2 : j < n
    · exact Or.inr (Or.inr ⟨j, h2, rfl⟩)
    · exact Or.inr (Or.inl (nI_le (by omega) hj))

theorem zd_b0 : vp_nar .boolean 0 = 0 := by decide
theorem zd_b1 : vp_nar .boolean 1 = 1 := by decide
/-- x is 1 if P holds, 0 if not -/
def zd_c (x : Int32) (P : Prop) : Prop := (x = 1 ∧ P) ∨ (x = 0 ∧ ¬ P)
theorem zd_c0 {x : Int32} {P : Prop} (h : zd_c x P) : x = 0 ↔ ¬ P := by
  rcases h with ⟨h, hp⟩ | ⟨h, hp⟩
  · subst h
    exact ⟨fun z => absurd z (by decide), fun z => absurd hp z⟩
  · exact ⟨fun _ => hp, fun _ => h⟩
theorem zd_cn0 {x : Int32} {P : Prop} (h : zd_c x P) : ¬ x = 0 ↔ P := by
  rw [zd_c0 h]
  exact Classical.not_not
theorem zd_c01 {x : Int32} {P : Prop} (h : zd_c x P) : x = 0 ∨ x = 1 := by
  rcases h with ⟨h, _⟩ | ⟨h, _⟩
  · exact Or.inr h
  · exact Or.inl h
theorem zd_ceq {x y : Int32} {P : Prop} (h : zd_c x P) (h' : zd_c y P) : x = y := by
  rcases h with ⟨h, hp⟩ | ⟨h, hp⟩ <;> rcases h' with ⟨h', hp'⟩ | ⟨h', hp'⟩
  · rw [h, h']
  · exact absurd hp hp'
  · exact absurd hp' hp
  · rw [h, h']
theorem zd_cif {x : Int32} {P Q : Prop} (h : zd_c x P) (e : P ↔ Q) : zd_c x Q := by
  unfold zd_c at h ⊢
  rw [← e]
  exact h
theorem zd_cof {x : Int32} (h : x = 0 ∨ x = 1) : zd_c x (¬ x = 0) := by
  rcases h with h | h
  · exact Or.inr ⟨h, fun z => z h⟩
  · exact Or.inl ⟨h, by rw [h]; decide⟩
theorem zd_ct {P : Prop} (h : P) : zd_c 1 P := Or.inl ⟨rfl, h⟩
theorem zd_cf {P : Prop} (h : ¬ P) : zd_c 0 P := Or.inr ⟨rfl, h⟩
theorem zd_nar {x : Int32} (h : x = 0 ∨ x = 1) : vp_nar .boolean x = x := by
  rcases h with h | h <;> subst h
  · exact zd_b0
  · exact zd_b1
/-- every mark is 0 or 1 -/
def zd_01 (m : Nat → Int32) : Prop := ∀ j, m j = 0 ∨ m j = 1
/-- A is m, but that zone z's points are S -/
def zd_Z (m : Nat → Int32) (z : Nat) (S : Nat → Prop) (A : Nat → Int32) : Prop :=
  (∀ j, (j < 1000 * z ∨ 1000 * z + 1000 ≤ j) → A j = m j) ∧ ∀ p, p < 1000 → zd_c (A (1000 * z + p)) (S p)
/-- the first thousand cells of A hold the set S -/
def zd_M (S : Nat → Prop) (A : Nat → Int32) : Prop := ∀ p, p < 1000 → zd_c (A p) (S p)
theorem zd_Zu {m A B : Nat → Int32} {z : Nat} {S : Nat → Prop} (h : zd_Z m z S A) (h' : zd_Z m z S B) : A = B := by
  funext j
  by_cases hj : j < 1000 * z ∨ 1000 * z + 1000 ≤ j
  · rw [h.1 j hj, h'.1 j hj]
  · obtain ⟨p, hp, rfl⟩ : ∃ p, p < 1000 ∧ j = 1000 * z + p := ⟨j - 1000 * z, by omega, by omega⟩
    exact zd_ceq (h.2 p hp) (h'.2 p hp)
theorem zd_Z01 {m A : Nat → Int32} {z : Nat} {S : Nat → Prop} (h : zd_Z m z S A) (h0 : zd_01 m) : zd_01 A := by
  intro j
  by_cases hj : j < 1000 * z ∨ 1000 * z + 1000 ≤ j
  · rw [h.1 j hj]
    exact h0 j
  · obtain ⟨p, hp, rfl⟩ : ∃ p, p < 1000 ∧ j = 1000 * z + p := ⟨j - 1000 * z, by omega, by omega⟩
    exact zd_c01 (h.2 p hp)
theorem zd_Zif {m A : Nat → Int32} {z : Nat} {S T : Nat → Prop} (h : zd_Z m z S A) (e : ∀ p, p < 1000 → (S p ↔ T p)) : zd_Z m z T A :=
  ⟨h.1, fun p hp => zd_cif (h.2 p hp) (e p hp)⟩
theorem zd_Zrf {m : Nat → Int32} {z : Nat} (h0 : zd_01 m) : zd_Z m z (fun p => ¬ m (1000 * z + p) = 0) m :=
  ⟨fun _ _ => rfl, fun _ _ => zd_cof (h0 _)⟩
theorem zd_Zst {m A : Nat → Int32} {z q : Nat} {S T : Nat → Prop} {v : Int32} (h : zd_Z m z S A) (hq : q < 1000) (hv : zd_c v (T q)) (e : ∀ r, r < 1000 → r ≠ q → (S r ↔ T r)) : zd_Z m z T (upd A (1000 * z + q) v) := by
  refine ⟨fun j hj => ?_, fun r hr => ?_⟩
  · rw [pk_un (by omega)]
    exact h.1 j hj
  · by_cases hrq : r = q
    · subst hrq
      rw [pk_us]
      exact hv
    · rw [pk_un (by omega)]
      exact zd_cif (h.2 r hr) (e r hr hrq)
theorem zd_Mif {A : Nat → Int32} {S T : Nat → Prop} (h : zd_M S A) (e : ∀ p, p < 1000 → (S p ↔ T p)) : zd_M T A :=
  fun p hp => zd_cif (h p hp) (e p hp)
theorem zd_Mst {A : Nat → Int32} {q : Nat} {S T : Nat → Prop} {v : Int32} (h : zd_M S A) (hv : zd_c v (T q)) (e : ∀ r, r < 1000 → r ≠ q → (S r ↔ T r)) : zd_M T (upd A q v) := by
  intro r hr
  by_cases hrq : r = q
  · subst hrq
    rw [pk_us]
    exact hv
  · rw [pk_un hrq]
    exact zd_cif (h r hr) (e r hr hrq)
/-- a read of zone y's point p while zone z is being changed and its own point p is still as it was -/
theorem zd_Zrd {m A : Nat → Int32} {z y p : Nat} {S : Nat → Prop} (h : zd_Z m z S A) (h0 : zd_01 m) (hp : p < 1000) (e : y = z → (S p ↔ ¬ m (1000 * z + p) = 0)) : A (1000 * y + p) = m (1000 * y + p) := by
  by_cases hy : y = z
  · subst hy
    exact zd_ceq (zd_cif (h.2 p hp) (e rfl)) (zd_cof (h0 _))
  · exact h.1 _ (by omega)

theorem zd_xX (z p : Nat) : nI z * 1000 + nI p = nI (1000 * z + p) := by
  show nI z * nI 1000 + nI p = _
  rw [pk_mul, nI_add, Nat.mul_comm]
theorem zd_xY (z p : Nat) : 1000 * nI z + nI p = nI (1000 * z + p) := by
  show nI 1000 * nI z + nI p = _
  rw [pk_mul, nI_add]
theorem zd_in {z p : Nat} (hz : z < 4) (hp : p < 1000) : vp_in (nI (1000 * z + p)) 4000 := vp_in_nI (by omega) (by decide)
theorem zd_cl {z p : Nat} (hz : z < 4) (hp : p < 1000) : (nI (1000 * z + p)).toNatClampNeg = 1000 * z + p := nI_clamp (by omega)
theorem zd_inX {z p : Nat} (hz : z < 4) (hp : p < 1000) : vp_in (nI z * 1000 + nI p) 4000 := by rw [zd_xX]; exact zd_in hz hp
theorem zd_inY {z p : Nat} (hz : z < 4) (hp : p < 1000) : vp_in (1000 * nI z + nI p) 4000 := by rw [zd_xY]; exact zd_in hz hp
theorem zd_clX {z p : Nat} (hz : z < 4) (hp : p < 1000) : (nI z * 1000 + nI p).toNatClampNeg = 1000 * z + p := by rw [zd_xX]; exact zd_cl hz hp
theorem zd_clY {z p : Nat} (hz : z < 4) (hp : p < 1000) : (1000 * nI z + nI p).toNatClampNeg = 1000 * z + p := by rw [zd_xY]; exact zd_cl hz hp
theorem zd_m1000 {p : Nat} (hp : p < 1000) : ¬ (1000 : Int32) ≤ nI p := nI_ge (b := 1000) hp (by decide)
theorem zd_e1000 : (1000 : Int32) ≤ nI 1000 := nI_le (a := 1000) (b := 1000) (by omega) (by decide)
