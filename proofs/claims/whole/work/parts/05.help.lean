/-! the small private methods of both sides -/
theorem zd_n4 : ¬ (4 : Int32) = 0 := by decide
theorem zd_n10 : ¬ (10 : Int32) = 0 := by decide
theorem zd_n100 : ¬ (100 : Int32) = 0 := by decide
theorem zd_t {A : Nat → Int32} {x : Int32} {n : Nat} (e : x.toNatClampNeg = n) (h : A n = 0) : A x.toNatClampNeg = 0 := by rw [e]; exact h
theorem zd_f {A : Nat → Int32} {x : Int32} {n : Nat} (e : x.toNatClampNeg = n) (h : ¬ A n = 0) : ¬ A x.toNatClampNeg = 0 := by rw [e]; exact h
theorem zd_ea {A : Nat → Int32} {x v w : Int32} {n : Nat} (e : x.toNatClampNeg = n) (h : vp_nar .boolean v = w) : upd A x.toNatClampNeg (vp_nar .boolean v) = upd A n w := by rw [e, h]
theorem zd_g34 (x : Int32) : 3 < x ↔ 4 ≤ x := by
  rw [Int32.lt_iff_toInt_lt, Int32.le_iff_toInt_le, show (3 : Int32).toInt = 3 from by decide, show (4 : Int32).toInt = 4 from by decide]
  omega
theorem zd_g15 (x : Int32) : 15 < x ↔ 16 ≤ x := by
  rw [Int32.lt_iff_toInt_lt, Int32.le_iff_toInt_le, show (15 : Int32).toInt = 15 from by decide, show (16 : Int32).toInt = 16 from by decide]
  omega
theorem zd_g999 (x : Int32) : 999 < x ↔ 1000 ≤ x := by
  rw [Int32.lt_iff_toInt_lt, Int32.le_iff_toInt_le, show (999 : Int32).toInt = 999 from by decide, show (1000 : Int32).toInt = 1000 from by decide]
  omega
/-- 1 if x is a zone's number -/
def zd_iz (x : Int32) : Int32 := if x < 0 then 0 else if 4 ≤ x then 0 else 1
/-- 1 if x is a pair -/
def zd_ip (x : Int32) : Int32 := if x < 0 then 0 else if 16 ≤ x then 0 else if x / 4 = x - x / 4 * 4 then 0 else 1
theorem zx_iz {post : Int32 → Prop} {x : Int32} (h : post (zd_iz x)) : wpX_isZone post x := by
  unfold zd_iz at h
  refine br_c (fun h0 => ?_) (fun h0 => br_c (fun h4 => ?_) (fun h4 => ?_))
  · rw [if_pos h0] at h; exact h
  · rw [if_neg h0, if_pos h4] at h; exact h
  · rw [if_neg h0, if_neg h4] at h; exact h
theorem zy_iz {post : Int32 → Prop} {m md : Nat → Int32} {x : Int32} (h : post (zd_iz x)) : wpY_isZone post (m, md) x := by
  unfold zd_iz at h
  refine br_c (fun h0 => ?_) (fun h0 => br_c (fun h4 => ?_) (fun h4 => ?_))
  · rw [if_pos h0] at h; exact h
  · rw [if_neg h0, if_pos ((zd_g34 x).mp h4)] at h; exact h
  · rw [if_neg h0, if_neg (fun z => h4 ((zd_g34 x).mpr z))] at h; exact h
theorem zx_ip {post : Int32 → Prop} {x : Int32} (h : post (zd_ip x)) : wpX_isPair post x := by
  unfold zd_ip at h
  refine br_c (fun h0 => ?_) (fun h0 => br_c (fun h4 => ?_) (fun h4 => ⟨zd_n4, zd_n4, br_c (fun h5 => ?_) (fun h5 => ?_)⟩))
  · rw [if_pos h0] at h; exact h
  · rw [if_neg h0, if_pos h4] at h; exact h
  · rw [if_neg h0, if_neg h4, if_pos h5] at h; exact h
  · rw [if_neg h0, if_neg h4, if_neg h5] at h; exact h
theorem zy_ip {post : Int32 → Prop} {m md : Nat → Int32} {x : Int32} (h : post (zd_ip x)) : wpY_isPair post (m, md) x := by
  unfold zd_ip at h
  refine br_c (fun h0 => ?_) (fun h0 => br_c (fun h4 => ?_) (fun h4 => ⟨zd_n4, zd_n4, br_c (fun h5 => ?_) (fun h5 => ?_)⟩))
  · rw [if_pos h0] at h; exact h
  · rw [if_neg h0, if_pos ((zd_g15 x).mp h4)] at h; exact h
  · rw [if_neg h0, if_neg (fun z => h4 ((zd_g15 x).mpr z)), if_pos h5] at h; exact h
  · rw [if_neg h0, if_neg (fun z => h4 ((zd_g15 x).mpr z)), if_neg h5] at h; exact h
theorem zd_iz1 {z : Nat} (hz : z < 4) : ¬ zd_iz (nI z) = 0 := by
  have g : ¬ (4 : Int32) ≤ nI z := nI_ge (b := 4) hz (by decide)
  unfold zd_iz
  rw [if_neg (nI_pos (by omega)), if_neg g]
  decide
theorem zd_zone (x : Int32) : zd_iz x = 0 ∨ ∃ z, z < 4 ∧ x = nI z := by
  rcases pk_ix x (n := 4) (by omega) with h | h | h
  · left
    unfold zd_iz
    rw [if_pos h]
  · left
    have h' : (4 : Int32) ≤ x := h
    unfold zd_iz
    by_cases h0 : x < 0
    · rw [if_pos h0]
    · rw [if_neg h0, if_pos h']
  · exact Or.inr h
theorem zd_pair (x : Int32) : zd_ip x = 0 ∨ ∃ r, r < 16 ∧ x = nI r ∧ ¬ zd_ip x = 0 := by
  by_cases h0 : zd_ip x = 0
  · exact Or.inl h0
  · right
    rcases pk_ix x (n := 16) (by omega) with h | h | ⟨r, hr, e⟩
    · exact absurd (by unfold zd_ip; rw [if_pos h]) h0
    · have h' : (16 : Int32) ≤ x := h
      refine absurd ?_ h0
      unfold zd_ip
      by_cases hx : x < 0
      · rw [if_pos hx]
      · rw [if_neg hx, if_pos h']
    · exact ⟨r, hr, e, h0⟩
theorem zd_coI1 {p : Nat} (hp : p < 1000) : nI p - nI p / 10 * 10 = nI (p % 10) := pk_rem (d := 10) (by omega) (by decide) (by decide)
theorem zd_coI2 {p : Nat} (hp : p < 1000) : (nI p / 10) - (nI p / 10) / 10 * 10 = nI (p / 10 % 10) := by
  have e : nI p / 10 = nI (p / 10) := pk_div (d := 10) (by omega) (by decide) (by decide)
  rw [e]
  exact pk_rem (d := 10) (by omega) (by decide) (by decide)
theorem zd_coI3 {p : Nat} (hp : p < 1000) : nI p / 100 = nI (p / 100) := pk_div (d := 100) (by omega) (by decide) (by decide)
theorem zx_co {post : Int32 → Prop} {i p : Nat} (hi : i < 4) (hp : p < 1000) (h : post (nI (zd_co i p))) : wpX_coordinate post (nI i) (nI p) := by
  rcases (by omega : i = 0 ∨ i = 1 ∨ i = 2 ∨ i = 3) with rfl | rfl | rfl | rfl
  · exact br_t (by decide) h
  · refine br_f (by decide) (br_f (by decide) (br_t rfl ⟨zd_n10, ?_⟩))
    rw [zd_coI1 hp]; exact h
  · refine br_f (by decide) (br_f (by decide) (br_f (by decide) (br_t rfl ⟨zd_n10, zd_n10, ?_⟩)))
    rw [zd_coI2 hp]; exact h
  · refine br_f (by decide) (br_f (by decide) (br_f (by decide) (br_f (by decide) (br_t rfl ⟨zd_n100, ?_⟩))))
    rw [zd_coI3 hp]; exact h
theorem zy_co {post : Int32 → Prop} {m md : Nat → Int32} {i p : Nat} (hi : i < 4) (hp : p < 1000) (h : post (nI (zd_co i p))) : wpY_part post (m, md) (nI p) (nI i) := by
  rcases (by omega : i = 0 ∨ i = 1 ∨ i = 2 ∨ i = 3) with rfl | rfl | rfl | rfl
  · exact br_t (by decide) h
  · refine br_f (by decide) (br_t rfl ⟨zd_n10, ?_⟩)
    rw [zd_coI1 hp]; exact h
  · refine br_f (by decide) (br_f (by decide) (br_t rfl ⟨zd_n10, zd_n10, ?_⟩))
    rw [zd_coI2 hp]; exact h
  · refine br_f (by decide) (br_f (by decide) (br_f (by decide) ⟨zd_n100, ?_⟩))
    rw [zd_coI3 hp]; exact h
theorem zd_q4 {r : Nat} (hr : r < 16) : nI r / 4 = nI (r / 4) := pk_div (d := 4) (by omega) (by decide) (by decide)
theorem zd_r4 {r : Nat} (hr : r < 16) : nI r - nI r / 4 * 4 = nI (r % 4) := pk_rem (d := 4) (by omega) (by decide) (by decide)
theorem zx_di {post : Int32 → Prop} {r p : Nat} (hr : r < 16) (hp : p < 1000) (h : post (zd_D r p)) : wpX_difference post (nI r) (nI p) := by
  unfold wpX_difference
  rw [zd_r4 hr, zd_q4 hr]
  exact ⟨zd_n4, zx_co (by omega) hp ⟨zd_n4, zx_co (by omega) hp h⟩⟩
theorem zy_di {post : Int32 → Prop} {m md : Nat → Int32} {r p : Nat} (hr : r < 16) (hp : p < 1000) (h : post (zd_D r p)) : wpY_difference post (m, md) (nI p) (nI r) := by
  unfold wpY_difference
  dsimp only
  rw [zd_r4 hr, zd_q4 hr]
  exact ⟨zd_n4, zy_co (by omega) hp ⟨zd_n4, zy_co (by omega) hp h⟩⟩
theorem zx_ri {post : Int32 → Prop} {p d : Nat} (hp : p < 1000) (hd : d ≤ 9) (h : ∀ x, zd_c x (zd_ri d p) → post x) : wpX_canRise post (nI p) (nI d) := by
  unfold wpX_canRise
  refine zx_co (i := 1) (by omega) hp (pk_lt 9 (p % 10 + d) (fun h9 => h 0 (zd_cf (fun t => ?_))) (fun h1 => ?_) rfl (nI_add (p % 10) d) (by omega) (by omega))
  · have := t.1
    omega
  refine zx_co (i := 2) (by omega) hp (pk_lt 9 (p / 10 % 10 + d) (fun h9 => h 0 (zd_cf (fun t => ?_))) (fun h2 => ?_) rfl (nI_add (p / 10 % 10) d) (by omega) (by omega))
  · have := t.2.1
    omega
  refine zx_co (i := 3) (by omega) hp (pk_lt 9 (p / 100 + d) (fun h9 => h 0 (zd_cf (fun t => ?_))) (fun h3 => ?_) rfl (nI_add (p / 100) d) (by omega) (by omega))
  · have := t.2.2
    omega
  exact h 1 (zd_ct ⟨h1, h2, h3⟩)
theorem zx_w {post : Int32 → Prop} {i : Nat} (ha : 1 ≤ i) (hb : i ≤ 3) (h : post (nI (zd_w i))) : wpX_weightOf post (nI i) := by
  rcases (by omega : i = 1 ∨ i = 2 ∨ i = 3) with rfl | rfl | rfl
  · exact br_t rfl h
  · exact br_f (by decide) (br_t rfl h)
  · exact br_f (by decide) (br_f (by decide) h)
theorem zd_wi00 {p i c : Nat} (ha : 1 ≤ i) (hb : i ≤ 3) : nI p + (nI c - nI (zd_co i p)) * nI (zd_w i) = nI (zd_wi p i c) := by
  have e := zd_wiI (a := 0) (p := p) (c := c) ha hb
  rw [Nat.zero_add, Nat.zero_add] at e
  exact e
theorem zy_wi {post : Int32 → Prop} {m md : Nat → Int32} {p i c : Nat} (ha : 1 ≤ i) (hb : i ≤ 3) (hp : p < 1000) (h : post (nI (zd_wi p i c))) : wpY_with post (m, md) (nI p) (nI i) (nI c) := by
  rw [← zd_wi00 ha hb] at h
  have g : wY_with_21 post (nI p) (nI i) (nI c) (nI (zd_w i)) m md := by
    unfold wY_with_21
    exact zy_co (by omega) hp h
  rcases (by omega : i = 1 ∨ i = 2 ∨ i = 3) with rfl | rfl | rfl
  · exact br_t rfl g
  · exact br_f (by decide) (br_t rfl g)
  · exact br_f (by decide) (br_f (by decide) g)
