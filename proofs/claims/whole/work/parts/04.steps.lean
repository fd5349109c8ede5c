/-! what one turn of each loop does to the sets, without any walk -/
/-- T below i, f from i on -/
def zd_mix (i : Nat) (T f : Nat → Prop) (p : Nat) : Prop := (p < i ∧ T p) ∨ (i ≤ p ∧ f p)
theorem zd_mix_i {i : Nat} {T f : Nat → Prop} : zd_mix i T f i ↔ f i := by
  unfold zd_mix
  constructor
  · rintro (⟨h, _⟩ | ⟨_, h⟩)
    · omega
    · exact h
  · intro h
    exact Or.inr ⟨Nat.le_refl i, h⟩
theorem zd_mix_n {i r : Nat} {T f : Nat → Prop} (h : r ≠ i) : zd_mix i T f r ↔ zd_mix (i + 1) T f r := by
  unfold zd_mix
  constructor
  · rintro (⟨h1, h2⟩ | ⟨h1, h2⟩)
    · exact Or.inl ⟨by omega, h2⟩
    · exact Or.inr ⟨by omega, h2⟩
  · rintro (⟨h1, h2⟩ | ⟨h1, h2⟩)
    · exact Or.inl ⟨by omega, h2⟩
    · exact Or.inr ⟨by omega, h2⟩
theorem zd_mix_t {i : Nat} {T f : Nat → Prop} : zd_mix (i + 1) T f i ↔ T i := by
  unfold zd_mix
  constructor
  · rintro (⟨_, h⟩ | ⟨h, _⟩)
    · exact h
    · omega
  · intro h
    exact Or.inl ⟨by omega, h⟩
theorem zd_mix_0 {T f : Nat → Prop} {p : Nat} : f p ↔ zd_mix 0 T f p := by
  unfold zd_mix
  constructor
  · intro h
    exact Or.inr ⟨by omega, h⟩
  · rintro (⟨h, _⟩ | ⟨_, h⟩)
    · omega
    · exact h
theorem zd_mix_e {T f : Nat → Prop} {p : Nat} (hp : p < 1000) : zd_mix 1000 T f p ↔ T p := by
  unfold zd_mix
  constructor
  · rintro (⟨_, h⟩ | ⟨h, _⟩)
    · exact h
    · omega
  · intro h
    exact Or.inl ⟨hp, h⟩
section fills
variable {m A : Nat → Int32} {z i : Nat} {T f : Nat → Prop} {v : Int32}
theorem zd_Z0 (h0 : zd_01 m) : zd_Z m z (zd_mix 0 T (fun p => ¬ m (1000 * z + p) = 0)) m := zd_Zif (zd_Zrf h0) (fun _ _ => zd_mix_0 (f := fun p => ¬ m (1000 * z + p) = 0))
theorem zd_Zw (h : zd_Z m z (zd_mix i T f) A) (hi : i < 1000) (hv : zd_c v (T i)) : zd_Z m z (zd_mix (i + 1) T f) (upd A (1000 * z + i) v) :=
  zd_Zst h hi (zd_cif hv zd_mix_t.symm) (fun _ _ hr => zd_mix_n hr)
theorem zd_Zk (h : zd_Z m z (zd_mix i T f) A) (e : T i ↔ f i) : zd_Z m z (zd_mix (i + 1) T f) A :=
  zd_Zif h (fun p _ => by
    by_cases hp : p = i
    · subst hp
      exact zd_mix_i.trans (e.symm.trans zd_mix_t.symm)
    · exact zd_mix_n hp)
theorem zd_Ze (h : zd_Z m z (zd_mix 1000 T f) A) : zd_Z m z T A := zd_Zif h (fun _ hp => zd_mix_e hp)
theorem zd_Zi (h : zd_Z m z (zd_mix i T f) A) (hi : i < 1000) : A (1000 * z + i) = 0 ↔ ¬ f i := by
  rw [zd_c0 (h.2 i hi), zd_mix_i]
theorem zd_M0 (h : zd_M f A) : zd_M (zd_mix 0 T f) A := zd_Mif h (fun _ _ => zd_mix_0)
theorem zd_Mw (h : zd_M (zd_mix i T f) A) (hv : zd_c v (T i)) : zd_M (zd_mix (i + 1) T f) (upd A i v) :=
  zd_Mst h (zd_cif hv zd_mix_t.symm) (fun _ _ hr => zd_mix_n hr)
theorem zd_Me (h : zd_M (zd_mix 1000 T f) A) : zd_M T A := zd_Mif h (fun _ hp => zd_mix_e hp)
theorem zd_Mi (h : zd_M (zd_mix i T f) A) (hi : i < 1000) : A i = 0 ↔ ¬ f i := by
  rw [zd_c0 (h i hi), zd_mix_i]
end fills
/-- the first i cells hold T -/
def zd_Mf (i : Nat) (T : Nat → Prop) (A : Nat → Int32) : Prop := ∀ p, p < i → zd_c (A p) (T p)
theorem zd_Mf0 {T : Nat → Prop} {A : Nat → Int32} : zd_Mf 0 T A := fun _ h => absurd h (by omega)
theorem zd_Mfw {i : Nat} {T : Nat → Prop} {A : Nat → Int32} {v : Int32} (h : zd_Mf i T A) (hv : zd_c v (T i)) : zd_Mf (i + 1) T (upd A i v) := by
  intro p hp
  by_cases hi : p = i
  · subst hi
    rw [pk_us]
    exact hv
  · rw [pk_un hi]
    exact h p (by omega)

/-! delay, in place -/
def zd_dX (i : Nat) (f : Nat → Prop) (q : Nat) : Prop := f q ∨ ∃ r, r < i ∧ q = r + 111 ∧ zd_ri 1 r ∧ zd_U f r
theorem zd_dX0 {f : Nat → Prop} {q : Nat} : f q ↔ zd_dX 0 f q := ⟨Or.inl, fun h => by
  rcases h with h | ⟨r, hr, _⟩
  · exact h
  · omega⟩
theorem zd_dXe {f : Nat → Prop} {q : Nat} (hq : q < 1000) : zd_dX 1000 f q ↔ zd_U f q := by
  rw [zd_Ueq hq]
  unfold zd_dX
  constructor
  · rintro (h | ⟨r, _, h⟩)
    · exact Or.inl h
    · exact Or.inr ⟨r, h⟩
  · rintro (h | ⟨r, e, h⟩)
    · exact Or.inl h
    · exact Or.inr ⟨r, by omega, e, h⟩
theorem zd_dXi {f : Nat → Prop} {i : Nat} (hi : i < 1000) : zd_dX i f i ↔ zd_U f i := by
  rw [zd_Ueq hi]
  unfold zd_dX
  constructor
  · rintro (h | ⟨r, _, h⟩)
    · exact Or.inl h
    · exact Or.inr ⟨r, h⟩
  · rintro (h | ⟨r, e, h⟩)
    · exact Or.inl h
    · exact Or.inr ⟨r, by omega, e, h⟩
theorem zd_dXn {f : Nat → Prop} {i q : Nat} (h : q ≠ i + 111 ∨ ¬ (zd_U f i ∧ zd_ri 1 i)) : zd_dX i f q ↔ zd_dX (i + 1) f q := by
  unfold zd_dX
  constructor
  · rintro (h1 | ⟨r, hr, h1⟩)
    · exact Or.inl h1
    · exact Or.inr ⟨r, by omega, h1⟩
  · rintro (h1 | ⟨r, hr, e, h1, h2⟩)
    · exact Or.inl h1
    · by_cases hri : r = i
      · subst hri
        rcases h with h | h
        · exact absurd e h
        · exact absurd ⟨h2, h1⟩ h
      · exact Or.inr ⟨r, by omega, e, h1, h2⟩
section delays
variable {m A : Nat → Int32} {z i : Nat} {f : Nat → Prop}
theorem zd_dXk (h : zd_Z m z (zd_dX i f) A) (hn : ¬ (zd_U f i ∧ zd_ri 1 i)) : zd_Z m z (zd_dX (i + 1) f) A := zd_Zif h (fun _ _ => zd_dXn (Or.inr hn))
theorem zd_dXw (h : zd_Z m z (zd_dX i f) A) (hu : zd_U f i) (hr : zd_ri 1 i) : zd_Z m z (zd_dX (i + 1) f) (upd A (1000 * z + (i + 111)) 1) :=
  zd_Zst h (zd_ri_lt (t := 1) hr) (zd_ct (Or.inr ⟨i, by omega, rfl, hr, hu⟩)) (fun _ _ hn => zd_dXn (Or.inl hn))
theorem zd_dXr (h : zd_Z m z (zd_dX i f) A) (hi : i < 1000) : ¬ A (1000 * z + i) = 0 ↔ zd_U f i := by
  rw [zd_cn0 (h.2 i hi), zd_dXi hi]
end delays
/-! past, in place, downwards: points from i on are done -/
def zd_pX (i : Nat) (f : Nat → Prop) (q : Nat) : Prop := zd_mix i f (zd_V f) q
theorem zd_pX0 {f : Nat → Prop} {q : Nat} (hq : q < 1000) : f q ↔ zd_pX 889 f q := by
  unfold zd_pX zd_mix
  constructor
  · intro h
    by_cases h2 : q < 889
    · exact Or.inl ⟨h2, h⟩
    · exact Or.inr ⟨by omega, (zd_Veq hq).mpr (Or.inl h)⟩
  · rintro (⟨_, h⟩ | ⟨h2, h⟩)
    · exact h
    · rcases (zd_Veq hq).mp h with h | ⟨h, _⟩
      · exact h
      · have := zd_ri_888 h
        omega
theorem zd_pXe {f : Nat → Prop} {q : Nat} : zd_pX 0 f q ↔ zd_V f q := zd_mix_0.symm
section pasts
variable {m A : Nat → Int32} {z i : Nat} {f : Nat → Prop}
theorem zd_pXk (h : zd_Z m z (zd_pX (i + 1) f) A) (hi : i < 1000) (hn : ¬ (zd_ri 1 i ∧ zd_V f (i + 111))) : zd_Z m z (zd_pX i f) A :=
  zd_Zif h (fun p _ => by
    by_cases hp : p = i
    · subst hp
      refine zd_mix_t.trans (Iff.trans ?_ zd_mix_i.symm)
      rw [zd_Veq hi]
      exact ⟨Or.inl, fun h => h.elim id (fun h => absurd h hn)⟩
    · exact (zd_mix_n hp).symm)
theorem zd_pXw (h : zd_Z m z (zd_pX (i + 1) f) A) (hi : i < 1000) (hr : zd_ri 1 i) (hv : zd_V f (i + 111)) : zd_Z m z (zd_pX i f) (upd A (1000 * z + i) 1) :=
  zd_Zst h hi (zd_ct (zd_mix_i.mpr ((zd_Veq hi).mpr (Or.inr ⟨hr, hv⟩)))) (fun _ _ hn => (zd_mix_n hn).symm)
theorem zd_pXr (h : zd_Z m z (zd_pX (i + 1) f) A) (hr : zd_ri 1 i) : ¬ A (1000 * z + (i + 111)) = 0 ↔ zd_V f (i + 111) := by
  rw [zd_cn0 (h.2 (i + 111) (zd_ri_lt (t := 1) hr))]
  unfold zd_pX zd_mix
  constructor
  · rintro (⟨h, _⟩ | ⟨_, h⟩)
    · omega
    · exact h
  · intro h
    exact Or.inr ⟨by omega, h⟩
end pasts
/-! the reference's move: the walk along a diagonal from p -/
def zd_mY (up : Bool) (p q : Nat) : Prop := if up = true then zd_re p q else zd_re q p
/-- what the reference has made when the points below i are walked -/
def zd_mO (up : Bool) (i : Nat) (f : Nat → Prop) (q : Nat) : Prop := ∃ p, p < i ∧ f p ∧ zd_mY up p q
theorem zd_mO0 {up : Bool} {f : Nat → Prop} {q : Nat} : ¬ zd_mO up 0 f q := fun ⟨_, h, _⟩ => by omega
theorem zd_mOn {up : Bool} {i : Nat} {f : Nat → Prop} {q : Nat} (h : ¬ f i) : zd_mO up i f q ↔ zd_mO up (i + 1) f q := by
  unfold zd_mO
  constructor
  · rintro ⟨p, hp, h1⟩
    exact ⟨p, by omega, h1⟩
  · rintro ⟨p, hp, h1, h2⟩
    refine ⟨p, ?_, h1, h2⟩
    by_cases hpi : p = i
    · subst hpi
      exact absurd h1 h
    · omega
theorem zd_mOs {up : Bool} {i : Nat} {f : Nat → Prop} {q : Nat} (h : f i) : zd_mO up (i + 1) f q ↔ zd_mO up i f q ∨ zd_mY up i q := by
  unfold zd_mO
  constructor
  · rintro ⟨p, hp, h1, h2⟩
    by_cases hpi : p = i
    · subst hpi
      exact Or.inr h2
    · exact Or.inl ⟨p, by omega, h1, h2⟩
  · rintro (⟨p, hp, h1, h2⟩ | h2)
    · exact ⟨p, by omega, h1, h2⟩
    · exact ⟨i, by omega, h, h2⟩
/-- the walk's end, upwards: t steps done, and no further -/
theorem zd_upE {p t q : Nat} (h : zd_ri t p) (hn : ¬ zd_ri 1 (p + 111 * t)) : (∃ s, s < t + 1 ∧ q = p + 111 * s) ↔ zd_re p q := by
  rw [zd_ri_1 h] at hn
  constructor
  · rintro ⟨s, hs, rfl⟩
    exact ⟨s, rfl, zd_ri_le h (by omega)⟩
  · rintro ⟨s, rfl, hs⟩
    refine ⟨s, ?_, rfl⟩
    by_cases hst : s < t + 1
    · exact hst
    · exact absurd (zd_ri_le hs (by omega)) hn
/-- downwards: q is where the walk stands, t steps below p -/
theorem zd_dnE {p t q : Nat} (hq : zd_ri t q) (hp : p = q + 111 * t) (hn : q % 10 = 0 ∨ q / 10 % 10 = 0 ∨ q / 100 = 0) (x : Nat) : (∃ s, s < t + 1 ∧ x + 111 * s = p) ↔ zd_re x p := by
  constructor
  · rintro ⟨s, hs, e⟩
    refine ⟨s, e.symm, ?_⟩
    obtain ⟨d, rfl⟩ : ∃ d, t = d + s := ⟨t - s, by omega⟩
    have hx : x = q + 111 * d := by omega
    have e1 := zd_dig (zd_ri_le hq (show d ≤ d + s by omega))
    unfold zd_ri at hq ⊢
    rw [hx, e1.1, e1.2.1, e1.2.2]
    omega
  · rintro ⟨s, e, hs⟩
    refine ⟨s, ?_, e.symm⟩
    by_cases hst : s < t + 1
    · exact hst
    · exfalso
      obtain ⟨d, rfl⟩ : ∃ d, s = d + 1 + t := ⟨s - t - 1, by omega⟩
      have hx : q = x + 111 * (d + 1) := by omega
      have e1 := zd_dig (zd_ri_le hs (show d + 1 ≤ d + 1 + t by omega))
      rw [hx, e1.1, e1.2.1, e1.2.2] at hn
      omega
/-- one step down -/
theorem zd_dnS {q t : Nat} (hq : zd_ri t q) (h1 : ¬ q % 10 = 0) (h2 : ¬ q / 10 % 10 = 0) (h3 : ¬ q / 100 = 0) : 111 ≤ q ∧ zd_ri (t + 1) (q - 111) := by
  have h : 111 ≤ q := by omega
  refine ⟨h, ?_⟩
  obtain ⟨a, b, c, ha, hb, hp⟩ : ∃ a b c, a < 10 ∧ b < 10 ∧ q = 100 * c + 10 * b + a := ⟨q % 10, q / 10 % 10, q / 100, by omega, by omega, by omega⟩
  have e1 : q % 10 = a := by omega
  have e2 : q / 10 % 10 = b := by omega
  have e3 : q / 100 = c := by omega
  unfold zd_ri at hq ⊢
  rw [e1, e2, e3] at hq
  rw [e1] at h1
  rw [e2] at h2
  rw [e3] at h3
  have g1 : (q - 111) % 10 = a - 1 := by omega
  have g2 : (q - 111) / 10 % 10 = b - 1 := by omega
  have g3 : (q - 111) / 100 = c - 1 := by omega
  rw [g1, g2, g3]
  omega
/-! reset, in place -/
def zd_rX (i c k : Nat) (f : Nat → Prop) (q : Nat) : Prop := (zd_co i q = c ∧ (f q ∨ ∃ p, p < k ∧ f p ∧ zd_wi p i c = q)) ∨ (¬ zd_co i q = c ∧ k ≤ q ∧ f q)
theorem zd_rX0 {i c : Nat} {f : Nat → Prop} {q : Nat} : f q ↔ zd_rX i c 0 f q := by
  unfold zd_rX
  constructor
  · intro h
    by_cases hc : zd_co i q = c
    · exact Or.inl ⟨hc, Or.inl h⟩
    · exact Or.inr ⟨hc, by omega, h⟩
  · rintro (⟨_, h | ⟨p, hp, _⟩⟩ | ⟨_, _, h⟩)
    · exact h
    · omega
    · exact h
theorem zd_rXe {i c : Nat} {f : Nat → Prop} {q : Nat} (ha : 1 ≤ i) (hb : i ≤ 3) (hc : c < 10) (hq : q < 1000) : zd_rX i c 1000 f q ↔ zd_R f i c q := by
  unfold zd_rX zd_R
  constructor
  · rintro (⟨h1, h | ⟨p, hp, h, e⟩⟩ | ⟨_, h, _⟩)
    · refine ⟨q, hq, h, ?_⟩
      rw [← h1]
      exact zd_wi_s
    · exact ⟨p, hp, h, e⟩
    · omega
  · rintro ⟨p, hp, h, rfl⟩
    exact Or.inl ⟨zd_wi_co ha hb hp hc, Or.inr ⟨p, hp, h, rfl⟩⟩
theorem zd_rXi {i c k : Nat} {f : Nat → Prop} (h : ¬ zd_co i k = c) : zd_rX i c k f k ↔ f k := by
  unfold zd_rX
  constructor
  · rintro (⟨h1, _⟩ | ⟨_, _, h⟩)
    · exact absurd h1 h
    · exact h
  · intro h1
    exact Or.inr ⟨h, Nat.le_refl k, h1⟩
/-- nothing to move: it has c, or it is no point of the zone -/
theorem zd_rXn {i c k : Nat} {f : Nat → Prop} {q : Nat} (h : zd_co i k = c ∨ ¬ f k) : zd_rX i c k f q ↔ zd_rX i c (k + 1) f q := by
  unfold zd_rX
  constructor
  · rintro (⟨h1, h2 | ⟨p, hp, h2⟩⟩ | ⟨h1, h2, h3⟩)
    · exact Or.inl ⟨h1, Or.inl h2⟩
    · exact Or.inl ⟨h1, Or.inr ⟨p, by omega, h2⟩⟩
    · refine Or.inr ⟨h1, ?_, h3⟩
      by_cases hk : k = q
      · subst hk
        rcases h with h | h
        · exact absurd h h1
        · exact absurd h3 h
      · omega
  · rintro (⟨h1, h2 | ⟨p, hp, h2, h3⟩⟩ | ⟨h1, h2, h3⟩)
    · exact Or.inl ⟨h1, Or.inl h2⟩
    · by_cases hk : p = k
      · subst hk
        rcases h with h | h
        · subst h
          rw [zd_wi_s] at h3
          subst h3
          exact Or.inl ⟨h1, Or.inl h2⟩
        · exact absurd h2 h
      · exact Or.inl ⟨h1, Or.inr ⟨p, by omega, h2, h3⟩⟩
    · exact Or.inr ⟨h1, by omega, h3⟩
section resets
variable {m A : Nat → Int32} {z i c k : Nat} {f : Nat → Prop}
theorem zd_rXk (h : zd_Z m z (zd_rX i c k f) A) (hn : zd_co i k = c ∨ ¬ f k) : zd_Z m z (zd_rX i c (k + 1) f) A := zd_Zif h (fun _ _ => zd_rXn hn)
theorem zd_rXw (ha : 1 ≤ i) (hb : i ≤ 3) (hc : c < 10) (hk : k < 1000) (h : zd_Z m z (zd_rX i c k f) A) (hn : ¬ zd_co i k = c) (hf : f k) : zd_Z m z (zd_rX i c (k + 1) f) (upd (upd A (1000 * z + k) 0) (1000 * z + zd_wi k i c) 1) := by
  have e := zd_wi_co ha hb hk hc
  have l := zd_wi_lt ha hb hk hc
  refine zd_Zst (S := fun q => q ≠ k ∧ zd_rX i c k f q) ?_ l (zd_ct (Or.inl ⟨e, Or.inr ⟨k, by omega, hf, rfl⟩⟩)) (fun q hq hne => ?_)
  · refine zd_Zst h hk (zd_cf (fun h => h.1 rfl)) (fun r _ hr => ⟨fun h => ⟨hr, h⟩, fun h => h.2⟩)
  · unfold zd_rX
    constructor
    · rintro ⟨hqk, ⟨h1, h2 | ⟨p, hp, h2⟩⟩ | ⟨h1, h2, h3⟩⟩
      · exact Or.inl ⟨h1, Or.inl h2⟩
      · exact Or.inl ⟨h1, Or.inr ⟨p, by omega, h2⟩⟩
      · exact Or.inr ⟨h1, by omega, h3⟩
    · rintro (⟨h1, h2⟩ | ⟨h1, h2, h3⟩)
      · refine ⟨fun z => hn (by rw [← z]; exact h1), Or.inl ⟨h1, ?_⟩⟩
        rcases h2 with h2 | ⟨p, hp, h2, h3⟩
        · exact Or.inl h2
        · refine Or.inr ⟨p, ?_, h2, h3⟩
          by_cases hpk : p = k
          · subst hpk
            exact absurd h3.symm hne
          · omega
      · exact ⟨by omega, Or.inr ⟨h1, by omega, h3⟩⟩
theorem zd_rXr (h : zd_Z m z (zd_rX i c k f) A) (hk : k < 1000) (hn : ¬ zd_co i k = c) : ¬ A (1000 * z + k) = 0 ↔ f k := by
  rw [zd_cn0 (h.2 k hk), zd_rXi hn]
end resets
/-- the reference's reset below k -/
def zd_rY (i c k : Nat) (f : Nat → Prop) (q : Nat) : Prop := ∃ p, p < k ∧ f p ∧ zd_wi p i c = q
theorem zd_rYn {i c k : Nat} {f : Nat → Prop} {q : Nat} (h : ¬ f k ∨ q ≠ zd_wi k i c) : zd_rY i c k f q ↔ zd_rY i c (k + 1) f q := by
  unfold zd_rY
  constructor
  · rintro ⟨p, hp, h1⟩
    exact ⟨p, by omega, h1⟩
  · rintro ⟨p, hp, h1, h2⟩
    refine ⟨p, ?_, h1, h2⟩
    by_cases hpk : p = k
    · subst hpk
      rcases h with h | h
      · exact absurd h1 h
      · exact absurd h2.symm h
    · omega
theorem zd_rYw {A : Nat → Int32} {i c k : Nat} {f : Nat → Prop} (h : zd_M (zd_rY i c k f) A) (hf : f k) : zd_M (zd_rY i c (k + 1) f) (upd A (zd_wi k i c) 1) :=
  zd_Mst h (zd_ct ⟨k, by omega, hf, rfl⟩) (fun _ _ hn => zd_rYn (Or.inr hn))
theorem zd_rYk {A : Nat → Int32} {i c k : Nat} {f : Nat → Prop} (h : zd_M (zd_rY i c k f) A) (hf : ¬ f k) : zd_M (zd_rY i c (k + 1) f) A := zd_Mif h (fun _ _ => zd_rYn (Or.inl hf))
/-! forget -/
/-- in place: the lines that start below k are done -/
def zd_fX (i k : Nat) (f : Nat → Prop) (q : Nat) : Prop := (zd_wi q i 0 < k ∧ zd_F f i q) ∨ (k ≤ zd_wi q i 0 ∧ f q)
theorem zd_fX0 {i : Nat} {f : Nat → Prop} {q : Nat} : f q ↔ zd_fX i 0 f q := by
  unfold zd_fX
  constructor
  · intro h
    exact Or.inr ⟨by omega, h⟩
  · rintro (⟨h, _⟩ | ⟨_, h⟩)
    · omega
    · exact h
theorem zd_fXe {i : Nat} {f : Nat → Prop} {q : Nat} (ha : 1 ≤ i) (hb : i ≤ 3) (hq : q < 1000) : zd_fX i 1000 f q ↔ zd_F f i q := by
  have := zd_wi_lt (c := 0) ha hb hq (by omega)
  unfold zd_fX
  constructor
  · rintro (⟨_, h⟩ | ⟨h, _⟩)
    · exact h
    · omega
  · intro h
    exact Or.inl ⟨this, h⟩
theorem zd_fXn {i k : Nat} {f : Nat → Prop} {q : Nat} (h : zd_wi q i 0 ≠ k) : zd_fX i k f q ↔ zd_fX i (k + 1) f q := by
  unfold zd_fX
  constructor
  · rintro (⟨h1, h2⟩ | ⟨h1, h2⟩)
    · exact Or.inl ⟨by omega, h2⟩
    · exact Or.inr ⟨by omega, h2⟩
  · rintro (⟨h1, h2⟩ | ⟨h1, h2⟩)
    · exact Or.inl ⟨by omega, h2⟩
    · exact Or.inr ⟨by omega, h2⟩
theorem zd_fXk {m A : Nat → Int32} {z i k : Nat} {f : Nat → Prop} (ha : 1 ≤ i) (hb : i ≤ 3) (h : zd_Z m z (zd_fX i k f) A) (hn : ¬ zd_co i k = 0) : zd_Z m z (zd_fX i (k + 1) f) A :=
  zd_Zif h (fun q hq => zd_fXn (fun e => hn (by rw [← e]; exact zd_wi_co ha hb hq (by omega))))
/-- a line that starts at k, its first x cells written -/
def zd_fL (i k x : Nat) (f : Nat → Prop) (q : Nat) : Prop := (zd_wi q i 0 = k ∧ zd_co i q < x ∧ zd_F f i q) ∨ (¬ (zd_wi q i 0 = k ∧ zd_co i q < x) ∧ zd_fX i k f q)
theorem zd_fL0 {i k : Nat} {f : Nat → Prop} {q : Nat} : zd_fX i k f q ↔ zd_fL i k 0 f q := by
  unfold zd_fL
  constructor
  · intro h
    exact Or.inr ⟨fun h => by omega, h⟩
  · rintro (⟨_, h, _⟩ | ⟨_, h⟩)
    · omega
    · exact h
theorem zd_fLe {i k : Nat} {f : Nat → Prop} {q : Nat} (hq : q < 1000) : zd_fL i k 10 f q ↔ zd_fX i (k + 1) f q := by
  have h9 := zd_co9 (i := i) hq
  by_cases e : zd_wi q i 0 = k
  · unfold zd_fL zd_fX
    constructor
    · rintro (⟨_, _, h⟩ | ⟨h, _⟩)
      · exact Or.inl ⟨by omega, h⟩
      · exact absurd ⟨e, by omega⟩ h
    · rintro (⟨_, h⟩ | ⟨h, _⟩)
      · exact Or.inl ⟨e, by omega, h⟩
      · omega
  · rw [← zd_fXn e]
    unfold zd_fL
    constructor
    · rintro (⟨h, _⟩ | ⟨_, h⟩)
      · exact absurd h e
      · exact h
    · intro h
      exact Or.inr ⟨fun h => e h.1, h⟩
theorem zd_fLw {m A : Nat → Int32} {z i k x : Nat} {f : Nat → Prop} {v : Int32} (ha : 1 ≤ i) (hb : i ≤ 3) (hk : k < 1000) (h0 : zd_co i k = 0) (hx : x < 10) (h : zd_Z m z (zd_fL i k x f) A) (hv : zd_c v (zd_F f i k)) : zd_Z m z (zd_fL i k (x + 1) f) (upd A (1000 * z + zd_wi k i x) v) := by
  have l := zd_wi_lt ha hb hk hx
  have e1 : zd_wi (zd_wi k i x) i 0 = k := by
    rw [zd_wi_w ha hb hk hx, zd_wi_0 h0]
    omega
  have e2 : zd_co i (zd_wi k i x) = x := zd_wi_co ha hb hk hx
  have e3 : zd_F f i k ↔ zd_F f i (zd_wi k i x) := by
    rw [zd_Feq ha hb hk, zd_Feq ha hb l]
    constructor
    · rintro ⟨y, hy, h⟩
      exact ⟨y, hy, by rw [zd_wi_w ha hb hk hx]; exact h⟩
    · rintro ⟨y, hy, h⟩
      rw [zd_wi_w ha hb hk hx] at h
      exact ⟨y, hy, h⟩
  refine zd_Zst h l (zd_cif hv ?_) (fun q hq hne => ?_)
  · rw [e3]
    unfold zd_fL
    constructor
    · intro h
      exact Or.inl ⟨e1, by omega, h⟩
    · rintro (⟨_, _, h⟩ | ⟨h, _⟩)
      · exact h
      · exact absurd ⟨e1, by omega⟩ h
  · have hne2 : ¬ (zd_wi q i 0 = k ∧ zd_co i q = x) := by
      rintro ⟨h1, h2⟩
      apply hne
      rw [← h1, zd_wi_w ha hb hq (by omega), ← h2, zd_wi_s]
    unfold zd_fL
    constructor
    · rintro (⟨h1, h2, h3⟩ | ⟨h1, h2⟩)
      · exact Or.inl ⟨h1, by omega, h3⟩
      · refine Or.inr ⟨fun h => ?_, h2⟩
        by_cases hc : zd_co i q = x
        · exact hne2 ⟨h.1, hc⟩
        · exact h1 ⟨h.1, by omega⟩
    · rintro (⟨h1, h2, h3⟩ | ⟨h1, h2⟩)
      · refine Or.inl ⟨h1, ?_, h3⟩
        by_cases hc : zd_co i q = x
        · exact absurd ⟨h1, hc⟩ hne2
        · omega
      · exact Or.inr ⟨fun h => h1 ⟨h.1, by omega⟩, h2⟩
/-- a read of the line that starts at k, before it is written -/
theorem zd_fXr {m A : Nat → Int32} {z i k x : Nat} {f : Nat → Prop} (ha : 1 ≤ i) (hb : i ≤ 3) (hk : k < 1000) (h0 : zd_co i k = 0) (hx : x < 10) (h : zd_Z m z (zd_fX i k f) A) : ¬ A (1000 * z + zd_wi k i x) = 0 ↔ f (zd_wi k i x) := by
  have l := zd_wi_lt ha hb hk hx
  have e1 : zd_wi (zd_wi k i x) i 0 = k := by
    rw [zd_wi_w ha hb hk hx, zd_wi_0 h0]
    omega
  rw [zd_cn0 (h.2 _ l)]
  unfold zd_fX
  rw [e1]
  constructor
  · rintro (⟨h, _⟩ | ⟨_, h⟩)
    · omega
    · exact h
  · intro h
    exact Or.inr ⟨Nat.le_refl k, h⟩
/-- the reference's forget: the points below k, and c values of point k -/
def zd_fY (i k c : Nat) (f : Nat → Prop) (q : Nat) : Prop := (∃ p, p < k ∧ f p ∧ ∃ d, d < 10 ∧ zd_wi p i d = q) ∨ ∃ d, d < c ∧ zd_wi k i d = q
theorem zd_fYk {i k : Nat} {f : Nat → Prop} {q : Nat} (h : ¬ f k) : zd_fY i k 0 f q ↔ zd_fY i (k + 1) 0 f q := by
  unfold zd_fY
  constructor
  · rintro (⟨p, hp, h1⟩ | ⟨d, hd, _⟩)
    · exact Or.inl ⟨p, by omega, h1⟩
    · omega
  · rintro (⟨p, hp, h1, h2⟩ | ⟨d, hd, _⟩)
    · refine Or.inl ⟨p, ?_, h1, h2⟩
      by_cases hpk : p = k
      · subst hpk
        exact absurd h1 h
      · omega
    · omega
theorem zd_fYe {i k : Nat} {f : Nat → Prop} {q : Nat} (h : f k) : zd_fY i k 10 f q ↔ zd_fY i (k + 1) 0 f q := by
  unfold zd_fY
  constructor
  · rintro (⟨p, hp, h1⟩ | h1)
    · exact Or.inl ⟨p, by omega, h1⟩
    · exact Or.inl ⟨k, by omega, h, h1⟩
  · rintro (⟨p, hp, h1, h2⟩ | ⟨d, hd, _⟩)
    · by_cases hpk : p = k
      · subst hpk
        exact Or.inr h2
      · exact Or.inl ⟨p, by omega, h1, h2⟩
    · omega
theorem zd_fYw {A : Nat → Int32} {i k c : Nat} {f : Nat → Prop} (h : zd_M (zd_fY i k c f) A) : zd_M (zd_fY i k (c + 1) f) (upd A (zd_wi k i c) 1) :=
  zd_Mst h (zd_ct (Or.inr ⟨c, by omega, rfl⟩)) (fun q _ hn => by
    unfold zd_fY
    constructor
    · rintro (h1 | ⟨d, hd, h1⟩)
      · exact Or.inl h1
      · exact Or.inr ⟨d, by omega, h1⟩
    · rintro (h1 | ⟨d, hd, h1⟩)
      · exact Or.inl h1
      · refine Or.inr ⟨d, ?_, h1⟩
        by_cases hdc : d = c
        · subst hdc
          exact absurd h1.symm hn
        · omega)
theorem zd_fY1 {i : Nat} {f : Nat → Prop} {q : Nat} : zd_fY i 1000 0 f q ↔ zd_F f i q := by
  unfold zd_fY zd_F
  constructor
  · rintro (h | ⟨d, hd, _⟩)
    · exact h
    · omega
  · exact Or.inl
