/-! the points' digits, differences, rising, what a coordinate is set to; scans -/
/-- xi of point p -/
def zd_co (i p : Nat) : Nat := if i = 1 then p % 10 else if i = 2 then p / 10 % 10 else if i = 3 then p / 100 else 0
theorem zd_co0 (p : Nat) : zd_co 0 p = 0 := rfl
theorem zd_co1 (p : Nat) : zd_co 1 p = p % 10 := rfl
theorem zd_co2 (p : Nat) : zd_co 2 p = p / 10 % 10 := rfl
theorem zd_co3 (p : Nat) : zd_co 3 p = p / 100 := rfl
theorem zd_co9 {i p : Nat} (hp : p < 1000) : zd_co i p ≤ 9 := by
  unfold zd_co
  split
  · omega
  · split
    · omega
    · split <;> omega
/-- xi - xj of point p as the program has it -/
def zd_D (r p : Nat) : Int32 := nI (zd_co (r / 4) p) - nI (zd_co (r % 4) p)
/-- x1, x2, x3 can all grow by d -/
def zd_ri (d p : Nat) : Prop := p % 10 + d ≤ 9 ∧ p / 10 % 10 + d ≤ 9 ∧ p / 100 + d ≤ 9
theorem zd_ri0 {p : Nat} (hp : p < 1000) : zd_ri 0 p := by
  unfold zd_ri
  omega
theorem zd_dig {p t : Nat} (h : zd_ri t p) : (p + 111 * t) % 10 = p % 10 + t ∧ (p + 111 * t) / 10 % 10 = p / 10 % 10 + t ∧ (p + 111 * t) / 100 = p / 100 + t := by
  obtain ⟨h1, h2, h3⟩ := h
  obtain ⟨a, b, c, ha, hb, hp⟩ : ∃ a b c, a < 10 ∧ b < 10 ∧ p = 100 * c + 10 * b + a := ⟨p % 10, p / 10 % 10, p / 100, by omega, by omega, by omega⟩
  have e1 : p % 10 = a := by omega
  have e2 : p / 10 % 10 = b := by omega
  have e3 : p / 100 = c := by omega
  rw [e1] at h1 ⊢
  rw [e2] at h2 ⊢
  rw [e3] at h3 ⊢
  have g : p + 111 * t = 100 * (c + t) + 10 * (b + t) + (a + t) := by omega
  rw [g]
  clear e1 e2 e3 hp g
  have g2 : (100 * (c + t) + 10 * (b + t) + (a + t)) / 10 = 10 * (c + t) + (b + t) := by omega
  rw [g2]
  clear g2
  refine ⟨by omega, by omega, by omega⟩
theorem zd_ri_lt {p t : Nat} (h : zd_ri t p) : p + 111 * t < 1000 := by
  have := zd_dig h
  have := h.2.2
  omega
theorem zd_ri_le {p s t : Nat} (h : zd_ri t p) (hs : s ≤ t) : zd_ri s p := by
  unfold zd_ri at h ⊢
  omega
theorem zd_ri_1 {p t : Nat} (h : zd_ri t p) : zd_ri 1 (p + 111 * t) ↔ zd_ri (t + 1) p := by
  have e := zd_dig h
  unfold zd_ri
  rw [e.1, e.2.1, e.2.2]
  omega
/-- q is p after some time -/
def zd_re (p q : Nat) : Prop := ∃ t, q = p + 111 * t ∧ zd_ri t p
theorem zd_re0 {p : Nat} (hp : p < 1000) : zd_re p p := ⟨0, by omega, zd_ri0 hp⟩
theorem zd_re_lt {p q : Nat} (h : zd_re p q) : p ≤ q ∧ q < 1000 := by
  obtain ⟨t, rfl, h⟩ := h
  exact ⟨by omega, zd_ri_lt h⟩
theorem zd_re_s {p q : Nat} (h : zd_re p q) (h1 : zd_ri 1 q) : zd_re p (q + 111) := by
  obtain ⟨t, rfl, h⟩ := h
  exact ⟨t + 1, by omega, (zd_ri_1 h).mp h1⟩
theorem zd_re_i {p q : Nat} (h : zd_re p q) : p = q ∨ ∃ r, q = r + 111 ∧ zd_ri 1 r ∧ zd_re p r := by
  obtain ⟨t, rfl, h⟩ := h
  cases t with
  | zero => exact Or.inl (by omega)
  | succ t => exact Or.inr ⟨p + 111 * t, by omega, (zd_ri_1 (zd_ri_le h (by omega))).mpr h, t, rfl, zd_ri_le h (by omega)⟩
theorem zd_ri_f {p t : Nat} (h : zd_ri 1 p) : zd_ri t (p + 111) ↔ zd_ri (t + 1) p := by
  have e := zd_dig h
  unfold zd_ri
  rw [show p + 111 = p + 111 * 1 by omega, e.1, e.2.1, e.2.2]
  omega
theorem zd_re_f {p q : Nat} (h1 : zd_ri 1 p) (h : zd_re (p + 111) q) : zd_re p q := by
  obtain ⟨t, rfl, h⟩ := h
  exact ⟨t + 1, by omega, (zd_ri_f h1).mp h⟩
theorem zd_re_fi {p q : Nat} (h : zd_re p q) : p = q ∨ (zd_ri 1 p ∧ zd_re (p + 111) q) := by
  obtain ⟨t, rfl, h⟩ := h
  cases t with
  | zero => exact Or.inl (by omega)
  | succ t =>
    have h1 : zd_ri 1 p := zd_ri_le h (by omega)
    exact Or.inr ⟨h1, t, by omega, (zd_ri_f h1).mpr h⟩
/-- what delay makes of f -/
def zd_U (f : Nat → Prop) (q : Nat) : Prop := ∃ p, p < 1000 ∧ f p ∧ zd_re p q
/-- what past makes of f -/
def zd_V (f : Nat → Prop) (q : Nat) : Prop := ∃ p, p < 1000 ∧ f p ∧ zd_re q p
theorem zd_Ueq {f : Nat → Prop} {q : Nat} (hq : q < 1000) : zd_U f q ↔ f q ∨ ∃ r, q = r + 111 ∧ zd_ri 1 r ∧ zd_U f r := by
  constructor
  · rintro ⟨p, hp, hf, h⟩
    rcases zd_re_i h with rfl | ⟨r, e, h1, h2⟩
    · exact Or.inl hf
    · exact Or.inr ⟨r, e, h1, p, hp, hf, h2⟩
  · rintro (hf | ⟨r, rfl, h1, p, hp, hf, h2⟩)
    · exact ⟨q, hq, hf, zd_re0 hq⟩
    · exact ⟨p, hp, hf, zd_re_s h2 h1⟩
theorem zd_Veq {f : Nat → Prop} {q : Nat} (hq : q < 1000) : zd_V f q ↔ f q ∨ (zd_ri 1 q ∧ zd_V f (q + 111)) := by
  constructor
  · rintro ⟨p, hp, hf, h⟩
    rcases zd_re_fi h with rfl | ⟨h1, h2⟩
    · exact Or.inl hf
    · exact Or.inr ⟨h1, p, hp, hf, h2⟩
  · rintro (hf | ⟨h1, p, hp, hf, h2⟩)
    · exact ⟨q, hq, hf, zd_re0 hq⟩
    · exact ⟨p, hp, hf, zd_re_f h1 h2⟩
theorem zd_ri_888 {p : Nat} (h : zd_ri 1 p) : p ≤ 888 := by
  unfold zd_ri at h
  omega
/-- what a point's number grows by when xi grows by 1 -/
def zd_w (i : Nat) : Nat := if i = 1 then 1 else if i = 2 then 10 else 100
/-- p with xi set to c -/
def zd_wi (p i c : Nat) : Nat := p + c * zd_w i - zd_co i p * zd_w i
theorem zd_i3 {P : Nat → Prop} (h1 : P 1) (h2 : P 2) (h3 : P 3) {i : Nat} (ha : 1 ≤ i) (hb : i ≤ 3) : P i := by
  rcases (by omega : i = 1 ∨ i = 2 ∨ i = 3) with rfl | rfl | rfl
  · exact h1
  · exact h2
  · exact h3
theorem zd_wi1 (p c : Nat) : zd_wi p 1 c = p + c * 1 - p % 10 * 1 := rfl
theorem zd_wi2 (p c : Nat) : zd_wi p 2 c = p + c * 10 - p / 10 % 10 * 10 := rfl
theorem zd_wi3 (p c : Nat) : zd_wi p 3 c = p + c * 100 - p / 100 * 100 := rfl
theorem zd_cw {p i : Nat} (ha : 1 ≤ i) (hb : i ≤ 3) : zd_co i p * zd_w i ≤ p := by
  refine zd_i3 (P := fun i => zd_co i p * zd_w i ≤ p) ?_ ?_ ?_ ha hb
  · show p % 10 * 1 ≤ p
    omega
  · show p / 10 % 10 * 10 ≤ p
    omega
  · show p / 100 * 100 ≤ p
    omega
theorem zd_wi_lt {p i c : Nat} (ha : 1 ≤ i) (hb : i ≤ 3) (hp : p < 1000) (hc : c < 10) : zd_wi p i c < 1000 := by
  refine zd_i3 (P := fun i => zd_wi p i c < 1000) ?_ ?_ ?_ ha hb
  · show p + c * 1 - p % 10 * 1 < 1000
    omega
  · show p + c * 10 - p / 10 % 10 * 10 < 1000
    omega
  · show p + c * 100 - p / 100 * 100 < 1000
    omega
theorem zd_wi_co {p i c : Nat} (ha : 1 ≤ i) (hb : i ≤ 3) (hp : p < 1000) (hc : c < 10) : zd_co i (zd_wi p i c) = c := by
  refine zd_i3 (P := fun i => zd_co i (zd_wi p i c) = c) ?_ ?_ ?_ ha hb
  · show (p + c * 1 - p % 10 * 1) % 10 = c
    omega
  · show (p + c * 10 - p / 10 % 10 * 10) / 10 % 10 = c
    omega
  · show (p + c * 100 - p / 100 * 100) / 100 = c
    omega
theorem zd_wi_s {p i : Nat} : zd_wi p i (zd_co i p) = p := by
  unfold zd_wi
  omega
theorem zd_wi_w {p i c d : Nat} (ha : 1 ≤ i) (hb : i ≤ 3) (hp : p < 1000) (hc : c < 10) : zd_wi (zd_wi p i c) i d = zd_wi p i d := by
  have e := zd_wi_co ha hb hp hc
  have e2 := zd_cw (p := p) ha hb
  have e3 := zd_cw (p := zd_wi p i c) ha hb
  rw [e] at e3
  unfold zd_wi at e e3 ⊢
  rw [e]
  generalize zd_co i p * zd_w i = x at *
  generalize c * zd_w i = y at *
  generalize d * zd_w i = v at *
  omega
theorem zd_wi_0 {p i x : Nat} (h : zd_co i p = 0) : zd_wi p i x = p + x * zd_w i := by
  unfold zd_wi
  rw [h]
  omega
/-- what reset makes of f -/
def zd_R (f : Nat → Prop) (i c q : Nat) : Prop := ∃ p, p < 1000 ∧ f p ∧ zd_wi p i c = q
/-- what forget makes of f -/
def zd_F (f : Nat → Prop) (i q : Nat) : Prop := ∃ p, p < 1000 ∧ f p ∧ ∃ c, c < 10 ∧ zd_wi p i c = q
theorem zd_Feq {f : Nat → Prop} {i q : Nat} (ha : 1 ≤ i) (hb : i ≤ 3) (hq : q < 1000) : zd_F f i q ↔ ∃ x, x < 10 ∧ f (zd_wi q i x) := by
  constructor
  · rintro ⟨p, hp, hf, c, hc, rfl⟩
    refine ⟨zd_co i p, Nat.lt_succ_of_le (zd_co9 hp), ?_⟩
    rw [zd_wi_w ha hb hp hc, zd_wi_s]
    exact hf
  · rintro ⟨x, hx, hf⟩
    refine ⟨zd_wi q i x, zd_wi_lt ha hb hq hx, hf, zd_co i q, Nat.lt_succ_of_le (zd_co9 hq), ?_⟩
    rw [zd_wi_w ha hb hq hx, zd_wi_s]
/-- the index of p with xi set to c -/
theorem zd_wiI {a p i c : Nat} (ha : 1 ≤ i) (hb : i ≤ 3) : nI (a + p) + (nI c - nI (zd_co i p)) * nI (zd_w i) = nI (a + zd_wi p i c) := by
  have h := zd_cw (p := p) ha hb
  have e : a + zd_wi p i c + zd_co i p * zd_w i = a + p + c * zd_w i := by
    unfold zd_wi
    omega
  have e2 : nI (a + zd_wi p i c) + nI (zd_co i p) * nI (zd_w i) = nI (a + p) + nI c * nI (zd_w i) := by
    rw [pk_mul, pk_mul, nI_add, nI_add, e]
  have e3 : nI (a + zd_wi p i c) = nI (a + p) + nI c * nI (zd_w i) - nI (zd_co i p) * nI (zd_w i) := by
    rw [← e2, Int32.add_sub_cancel]
  rw [e3]
  grind
/-- the lowest point of zone z from i on, n of them looked at; -2000 if none -/
def zd_lo (m : Nat → Int32) (z : Nat) : Nat → Nat → Int32
  | 0, _ => -2000
  | n + 1, i => if m (1000 * z + i) = 0 then zd_lo m z n (i + 1) else nI i
theorem zd_nne {i : Nat} (h : i < 2 ^ 31) : ¬ nI i = -2000 := by
  intro e
  have h1 := nI_pos (n := i) h
  rw [e] at h1
  exact h1 (by decide)
theorem zd_lo0 {m : Nat → Int32} {z : Nat} : ∀ n i, i + n ≤ 1000 → zd_lo m z n i = -2000 → ∀ p, i ≤ p → p < i + n → m (1000 * z + p) = 0 := by
  intro n
  induction n with
  | zero => intro i _ _ p h1 h2; omega
  | succ n ih =>
    intro i hi h p h1 h2
    unfold zd_lo at h
    by_cases hm : m (1000 * z + i) = 0
    · rw [if_pos hm] at h
      by_cases hp : p = i
      · rw [hp]; exact hm
      · exact ih (i + 1) (by omega) h p (by omega) (by omega)
    · rw [if_neg hm] at h
      exact absurd h (zd_nne (by omega))
/-- 1 if the zone has points -/
def zd_so (m : Nat → Int32) (z n i : Nat) : Int32 := if zd_lo m z n i = -2000 then 0 else 1
/-- the greatest difference of the marked points below n -/
def zd_gr (m : Nat → Int32) (z r : Nat) : Nat → Int32
  | 0 => -2000
  | n + 1 => if m (1000 * z + n) = 0 then zd_gr m z r n else if zd_D r n ≤ zd_gr m z r n then zd_gr m z r n else zd_D r n
theorem zd_gr0 {m : Nat → Int32} {z r : Nat} (h : ∀ p, p < 1000 → m (1000 * z + p) = 0) : ∀ n, n ≤ 1000 → zd_gr m z r n = -2000 := by
  intro n
  induction n with
  | zero => intro _; rfl
  | succ n ih =>
    intro hn
    unfold zd_gr
    rw [if_pos (h n (by omega))]
    exact ih (by omega)
/-- the hull's bound of a pair -/
def zd_hb (m : Nat → Int32) (z y r : Nat) : Int32 := if zd_gr m z r 1000 ≤ zd_gr m y r 1000 then zd_gr m y r 1000 else zd_gr m z r 1000
/-- what hull makes of zones z and y -/
def zd_H (m : Nat → Int32) (z y p : Nat) : Prop := ∀ r, r < 16 → zd_D r p ≤ zd_hb m z y r
theorem zd_H0 {m : Nat → Int32} {z y p : Nat} (hz : zd_lo m z 1000 0 = -2000) (hy : zd_lo m y 1000 0 = -2000) : ¬ zd_H m z y p := by
  intro h
  have h1 := h 0 (by omega)
  have ez : zd_gr m z 0 1000 = -2000 := zd_gr0 (fun p hp => zd_lo0 1000 0 (by omega) hz p (by omega) (by omega)) 1000 (by omega)
  have ey : zd_gr m y 0 1000 = -2000 := zd_gr0 (fun p hp => zd_lo0 1000 0 (by omega) hy p (by omega) (by omega)) 1000 (by omega)
  have hD : zd_D 0 p = 0 := by
    show nI 0 - nI 0 = 0
    decide
  unfold zd_hb at h1
  rw [ez, ey, hD] at h1
  exact absurd h1 (by decide)
/-- how many points below n are marked -/
def zd_cn (m : Nat → Int32) (z : Nat) : Nat → Nat
  | 0 => 0
  | n + 1 => if m (1000 * z + n) = 0 then zd_cn m z n else zd_cn m z n + 1
/-- how many of g's first n cells aren't 0 -/
def zd_cs (g : Nat → Int32) : Nat → Nat
  | 0 => 0
  | n + 1 => if g n = 0 then zd_cs g n else zd_cs g n + 1
theorem zd_cs_if {g h : Nat → Int32} : ∀ n, (∀ d, d < n → (g d = 0 ↔ h d = 0)) → zd_cs g n = zd_cs h n := by
  intro n
  induction n with
  | zero => intro _; rfl
  | succ n ih =>
    intro e
    unfold zd_cs
    rw [ih (fun d hd => e d (by omega))]
    by_cases hg : g n = 0
    · rw [if_pos hg, if_pos ((e n (by omega)).mp hg)]
    · rw [if_neg hg, if_neg (fun z => hg ((e n (by omega)).mpr z))]
theorem zd_cs_up {g : Nat → Int32} {d : Nat} (h0 : g d = 0) : ∀ n, zd_cs (upd g d 1) n = if d < n then zd_cs g n + 1 else zd_cs g n := by
  intro n
  induction n with
  | zero => rfl
  | succ n ih =>
    unfold zd_cs
    rw [ih]
    by_cases hd : d = n
    · subst hd
      rw [pk_us, if_neg (by decide : ¬ (1 : Int32) = 0), if_neg (by omega), if_pos h0, if_pos (by omega)]
    · rw [pk_un (fun z => hd z.symm)]
      by_cases hn : d < n
      · rw [if_pos hn, if_pos (show d < n + 1 by omega)]
        by_cases hg : g n = 0 <;> simp [hg]
      · rw [if_neg hn, if_neg (show ¬ d < n + 1 by omega)]
theorem zd_cs_0 {g : Nat → Int32} : ∀ n, (∀ d, d < n → g d = 0) → zd_cs g n = 0 := by
  intro n
  induction n with
  | zero => intro _; rfl
  | succ n ih =>
    intro h
    unfold zd_cs
    rw [if_pos (h n (by omega))]
    exact ih (fun d hd => h d (by omega))
/-- the difference, from 0 to 18 -/
def zd_d9 (r p : Nat) : Nat := zd_co (r / 4) p + 9 - zd_co (r % 4) p
theorem zd_d9_lt {r p : Nat} (hp : p < 1000) : zd_d9 r p < 19 := by
  have := zd_co9 (i := r / 4) hp
  unfold zd_d9
  omega
theorem zd_d9I {r p : Nat} (hp : p < 1000) : zd_D r p + 9 = nI (zd_d9 r p) := by
  have h := zd_co9 (i := r % 4) hp
  have e : nI (zd_d9 r p) + nI (zd_co (r % 4) p) = nI (zd_co (r / 4) p) + nI 9 := by
    unfold zd_d9
    rw [nI_add, nI_add]
    exact congrArg nI (by omega)
  have e2 : nI (zd_d9 r p) = nI (zd_co (r / 4) p) + nI 9 - nI (zd_co (r % 4) p) := by
    rw [← e, Int32.add_sub_cancel]
  rw [e2]
  unfold zd_D
  show _ + nI 9 = _
  grind
/-- the differences of the marked points below n -/
def zd_S (m : Nat → Int32) (z r n d : Nat) : Prop := ∃ p, p < n ∧ ¬ m (1000 * z + p) = 0 ∧ zd_d9 r p = d
theorem zd_S_s {m : Nat → Int32} {z r n d : Nat} : zd_S m z r (n + 1) d ↔ zd_S m z r n d ∨ (¬ m (1000 * z + n) = 0 ∧ zd_d9 r n = d) := by
  constructor
  · rintro ⟨p, hp, h, e⟩
    by_cases hn : p = n
    · subst hn
      exact Or.inr ⟨h, e⟩
    · exact Or.inl ⟨p, by omega, h, e⟩
  · rintro (⟨p, hp, h, e⟩ | ⟨h, e⟩)
    · exact ⟨p, by omega, h, e⟩
    · exact ⟨n, by omega, h, e⟩
theorem zd_S_0 {m : Nat → Int32} {z r d : Nat} : ¬ zd_S m z r 0 d := fun ⟨_, hp, _⟩ => by omega
