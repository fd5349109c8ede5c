/-! the reference's move, reset, forget, and what it reads -/
section walkY2
variable {m md : Nat → Int32} {z y : Nat}
theorem zy_m58 {post : Int32 → SY → Prop} {J6 J35 : Int32 → (Nat → Int32) → (Nat → Int32) → Prop} {x1 x2 x3 : Int32} {q e : Nat} (hq : q < 1000) (he : e < 10) (K1 : (q % 10 = e ∨ q / 10 % 10 = e ∨ q / 100 = e) → J35 (-1) m md) (K0 : ¬ q % 10 = e → ¬ q / 10 % 10 = e → ¬ q / 100 = e → J35 (nI q + 111 * x2) m md) : wY_move_58 post J6 J35 x1 x2 x3 (nI q) (nI e) m md := by
  have g : (q % 10 = e ∨ q / 10 % 10 = e ∨ q / 100 = e) → wY_move_96 post J6 J35 x1 x2 x3 (nI q) m md := fun h => br_f (by decide) (K1 h)
  unfold wY_move_58
  refine zy_co (i := 1) (by omega) hq (pk_eq (q % 10) e (fun h => g (Or.inl h)) (fun h1 => ?_) rfl rfl (by omega) (by omega))
  refine zy_co (i := 2) (by omega) hq (pk_eq (q / 10 % 10) e (fun h => g (Or.inr (Or.inl h))) (fun h2 => ?_) rfl rfl (by omega) (by omega))
  refine zy_co (i := 3) (by omega) hq (pk_eq (q / 100) e (fun h => g (Or.inr (Or.inr h))) (fun h3 => ?_) rfl rfl (by omega) (by omega))
  exact br_t rfl (nm_e (K0 h1 h2 h3))
theorem zd_r19 {q : Nat} (h1 : ¬ q % 10 = 9) (h2 : ¬ q / 10 % 10 = 9) (h3 : ¬ q / 100 = 9) (hq : q < 1000) : zd_ri 1 q := by
  unfold zd_ri
  omega
theorem zd_r19n {q : Nat} (h : q % 10 = 9 ∨ q / 10 % 10 = 9 ∨ q / 100 = 9) : ¬ zd_ri 1 q := by
  unfold zd_ri
  omega
theorem zd_p111 (q : Nat) : nI q + 111 * 1 = nI (q + 111) := nI_add q 111
theorem zd_m111 (q : Nat) : nI (q + 111) + 111 * (-1) = nI q := by
  rw [← nI_add, Int32.add_assoc, show nI 111 + 111 * (-1) = 0 by decide, Int32.add_zero]
/-- upwards along the diagonal of p -/
theorem zy_up {post : Int32 → SY → Prop} {J6 : Int32 → (Nat → Int32) → (Nat → Int32) → Prop} {x1 x3 : Int32} {base : Nat → Prop} {p : Nat} (K : ∀ md', zd_M (fun q => base q ∨ zd_re p q) md' → J6 (x3 + 1) m md') : ∀ d t md, t + d = 9 → zd_ri t p → zd_M (fun q => base q ∨ ∃ s, s < t ∧ q = p + 111 * s) md → wY_move_35 post J6 x1 1 x3 (d + 2) (nI (p + 111 * t)) m md := by
  intro d
  induction d with
  | zero =>
    intro t md ht hr h
    obtain rfl : t = 9 := by omega
    have hl := zd_ri_lt hr
    have hM : zd_M (fun q => base q ∨ ∃ s, s < 9 + 1 ∧ q = p + 111 * s) (upd md (p + 111 * 9) 1) := by
      refine zd_Mst h (zd_ct (Or.inr ⟨9, by omega, rfl⟩)) (fun q _ hn => ?_)
      constructor
      · rintro (a | ⟨s, hs, e⟩)
        · exact Or.inl a
        · exact Or.inr ⟨s, by omega, e⟩
      · rintro (a | ⟨s, hs, e⟩)
        · exact Or.inl a
        · refine Or.inr ⟨s, ?_, e⟩
          by_cases hs9 : s = 9
          · subst hs9
            exact absurd e hn
          · omega
    refine br_f (nI_pos (by omega)) ⟨vp_in_nI hl (by decide), nm_r (zd_ea (nI_clamp (by omega)) zd_b1) (br_f (by decide) (zy_m58 (e := 9) hl (by omega) (fun hs => br_t (by decide) (nm_e (K _ (zd_Mif hM (fun q _ => ?_))))) (fun h1 h2 h3 => ?_)))⟩
    · rw [zd_upE hr (zd_r19n hs)]
    · have g := (zd_ri_1 hr).mp (zd_r19 h1 h2 h3 hl)
      have := g.1
      omega
  | succ d ih =>
    intro t md ht hr h
    have hl := zd_ri_lt hr
    have hM : zd_M (fun q => base q ∨ ∃ s, s < t + 1 ∧ q = p + 111 * s) (upd md (p + 111 * t) 1) := by
      refine zd_Mst h (zd_ct (Or.inr ⟨t, by omega, rfl⟩)) (fun q _ hn => ?_)
      constructor
      · rintro (a | ⟨s, hs, e⟩)
        · exact Or.inl a
        · exact Or.inr ⟨s, by omega, e⟩
      · rintro (a | ⟨s, hs, e⟩)
        · exact Or.inl a
        · refine Or.inr ⟨s, ?_, e⟩
          by_cases hst : s = t
          · subst hst
            exact absurd e hn
          · omega
    refine br_f (nI_pos (by omega)) ⟨vp_in_nI hl (by decide), nm_r (zd_ea (nI_clamp (by omega)) zd_b1) (br_f (by decide) (zy_m58 (e := 9) hl (by omega) (fun hs => br_t (by decide) (nm_e (K _ (zd_Mif hM (fun q _ => ?_))))) (fun h1 h2 h3 => ?_)))⟩
    · rw [zd_upE hr (zd_r19n hs)]
    · have g := (zd_ri_1 hr).mp (zd_r19 h1 h2 h3 hl)
      rw [zd_p111]
      exact ih (t + 1) _ (by omega) g hM
/-- downwards from p: the walk stands at q -/
theorem zy_dn {post : Int32 → SY → Prop} {J6 : Int32 → (Nat → Int32) → (Nat → Int32) → Prop} {x1 x3 : Int32} {base : Nat → Prop} {p : Nat} (hp : p < 1000) (K : ∀ md', zd_M (fun x => base x ∨ zd_re x p) md' → J6 (x3 + 1) m md') : ∀ d t q md, t + d = 9 → zd_ri t q → p = q + 111 * t → zd_M (fun x => base x ∨ ∃ s, s < t ∧ x + 111 * s = p) md → wY_move_35 post J6 x1 (-1) x3 (d + 2) (nI q) m md := by
  intro d
  induction d with
  | zero =>
    intro t q md ht hr e h
    obtain rfl : t = 9 := by omega
    have hl : q < 1000 := by omega
    have hM : zd_M (fun x => base x ∨ ∃ s, s < 9 + 1 ∧ x + 111 * s = p) (upd md q 1) := by
      refine zd_Mst h (zd_ct (Or.inr ⟨9, by omega, e.symm⟩)) (fun x _ hn => ?_)
      constructor
      · rintro (a | ⟨s, hs, e'⟩)
        · exact Or.inl a
        · exact Or.inr ⟨s, by omega, e'⟩
      · rintro (a | ⟨s, hs, e'⟩)
        · exact Or.inl a
        · refine Or.inr ⟨s, ?_, e'⟩
          by_cases hs9 : s = 9
          · omega
          · omega
    refine br_f (nI_pos (by omega)) ⟨vp_in_nI hl (by decide), nm_r (zd_ea (nI_clamp (by omega)) zd_b1) (br_t (by decide) (zy_m58 (e := 0) hl (by omega) (fun hs => br_t (by decide) (nm_e (K _ (zd_Mif hM (fun x _ => ?_))))) (fun h1 h2 h3 => ?_)))⟩
    · rw [zd_dnE hr e hs]
    · have g := (zd_dnS hr h1 h2 h3).2.1
      omega
  | succ d ih =>
    intro t q md ht hr e h
    have hl : q < 1000 := by omega
    have hM : zd_M (fun x => base x ∨ ∃ s, s < t + 1 ∧ x + 111 * s = p) (upd md q 1) := by
      refine zd_Mst h (zd_ct (Or.inr ⟨t, by omega, e.symm⟩)) (fun x _ hn => ?_)
      constructor
      · rintro (a | ⟨s, hs, e'⟩)
        · exact Or.inl a
        · exact Or.inr ⟨s, by omega, e'⟩
      · rintro (a | ⟨s, hs, e'⟩)
        · exact Or.inl a
        · refine Or.inr ⟨s, ?_, e'⟩
          by_cases hst : s = t
          · subst hst
            omega
          · omega
    refine br_f (nI_pos (by omega)) ⟨vp_in_nI hl (by decide), nm_r (zd_ea (nI_clamp (by omega)) zd_b1) (br_t (by decide) (zy_m58 (e := 0) hl (by omega) (fun hs => br_t (by decide) (nm_e (K _ (zd_Mif hM (fun x _ => ?_))))) (fun h1 h2 h3 => ?_)))⟩
    · rw [zd_dnE hr e hs]
    · obtain ⟨g1, g2⟩ := zd_dnS hr h1 h2 h3
      obtain ⟨b, rfl⟩ : ∃ b, q = b + 111 := ⟨q - 111, by omega⟩
      rw [Nat.add_sub_cancel] at g2
      rw [zd_m111]
      exact ih (t + 1) b _ (by omega) g2 (by omega) hM
theorem zy_move6 {post : Int32 → SY → Prop} {f : Nat → Prop} (up : Bool) {st : Int32} (hst : st = if up = true then 1 else -1) (hz : z < 4) (h0 : zd_01 m) (hf : ∀ p, p < 1000 → (¬ m (1000 * z + p) = 0 ↔ f p)) (K : ∀ B md', zd_Z m z (zd_mO up 1000 f) B → post (zd_so B z 1000 0) (B, md')) : ∀ d i md, i + d = 1000 → zd_M (zd_mO up i f) md → wY_move_6 post (nI z) st (d + 1) (nI i) m md := by
  intro d
  induction d with
  | zero =>
    intro i md hi h
    obtain rfl : i = 1000 := by omega
    exact br_t zd_e1000 (zy_take hz h0 h K)
  | succ d ih =>
    intro i md hi h
    have hp : i < 1000 := by omega
    have hc := zd_clY hz hp
    refine br_f (zd_m1000 hp) ⟨zd_inY hz hp, ?_⟩
    by_cases hm : m (1000 * z + i) = 0
    · refine br_t (zd_t hc hm) ⟨0 + 1, br_t (by decide) (nm_r (nI_1 i) (ih (i + 1) md (by omega) (zd_Mif h (fun q _ => zd_mOn ?_))))⟩
      exact fun t => (hf i hp).mpr t hm
    · have hfi := (hf i hp).mp hm
      refine br_f (zd_f hc hm) ?_
      have nx : ∀ md', zd_M (fun q => zd_mO up i f q ∨ zd_mY up i q) md' → wY_move_6 post (nI z) st (d + 1) (nI i + 1) m md' := by
        intro md' hM
        rw [nI_1]
        exact ih (i + 1) md' (by omega) (zd_Mif hM (fun q _ => (zd_mOs hfi).symm))
      cases up with
      | true =>
        subst hst
        exact ⟨9 + 2, zy_up (base := zd_mO true i f) (p := i) nx 9 0 md (by omega) (zd_ri0 hp) (zd_Mif h (fun q _ => ⟨Or.inl, fun t => t.elim id (fun ⟨s, hs, _⟩ => absurd hs (by omega))⟩))⟩
      | false =>
        subst hst
        exact ⟨9 + 2, zy_dn (base := zd_mO false i f) (p := i) hp nx 9 0 i md (by omega) (zd_ri0 hp) (by omega) (zd_Mif h (fun q _ => ⟨Or.inl, fun t => t.elim id (fun ⟨s, hs, _⟩ => absurd hs (by omega))⟩))⟩
theorem zy_move {post : Int32 → SY → Prop} (up : Bool) {st : Int32} (hst : st = if up = true then 1 else -1) (hz : z < 4) (h0 : zd_01 m) (K : ∀ B md', zd_Z m z (zd_mO up 1000 (fun p => ¬ m (1000 * z + p) = 0)) B → post (zd_so B z 1000 0) (B, md')) : wpY_move post (m, md) (nI z) st := by
  unfold wpY_move
  exact zy_clear (fun md' hM => ⟨1000 + 1, zy_move6 up hst hz h0 (fun _ _ => Iff.rfl) K 1000 0 md' (by omega) (zd_Mif hM (fun q _ => ⟨False.elim, zd_mO0⟩))⟩)
theorem zy_reset39 {post : Int32 → SY → Prop} {i c : Nat} (hz : z < 4) (ha : 1 ≤ i) (hb3 : i ≤ 3) (hc : c < 10) (h0 : zd_01 m) (K : ∀ B md', zd_Z m z (zd_R (fun p => ¬ m (1000 * z + p) = 0) i c) B → post (zd_so B z 1000 0) (B, md')) : ∀ d k md, k + d = 1000 → zd_M (zd_rY i c k (fun p => ¬ m (1000 * z + p) = 0)) md → wY_reset_39 post (nI z) (nI i) (nI c) (d + 1) (nI k) m md := by
  intro d
  induction d with
  | zero =>
    intro k md hk h
    obtain rfl : k = 1000 := by omega
    exact br_t zd_e1000 (zy_take hz h0 h K)
  | succ d ih =>
    intro k md hk h
    have hp : k < 1000 := by omega
    have hcl := zd_clY hz hp
    have hl := zd_wi_lt ha hb3 hp hc
    refine br_f (zd_m1000 hp) ⟨zd_inY hz hp, ?_⟩
    by_cases hm : m (1000 * z + k) = 0
    · exact br_t (zd_t hcl hm) (nm_r (nI_1 k) (ih (k + 1) md (by omega) (zd_rYk h (fun t => t hm))))
    · exact br_f (zd_f hcl hm) (zy_wi ha hb3 hp ⟨vp_in_nI hl (by decide), nm_r (zd_ea (nI_clamp (by omega)) zd_b1) (nm_r (nI_1 k) (ih (k + 1) _ (by omega) (zd_rYw h hm)))⟩)
theorem zy_forget38 {post : Int32 → SY → Prop} {J : Int32 → (Nat → Int32) → (Nat → Int32) → Prop} {f : Nat → Prop} {i k : Nat} (hz : z < 4) (ha : 1 ≤ i) (hb3 : i ≤ 3) (hk : k < 1000) (hm : ¬ m (1000 * z + k) = 0) (K : ∀ md', zd_M (zd_fY i k 10 f) md' → J (nI k + 1) m md') : ∀ d c md, c + d = 10 → zd_M (zd_fY i k c f) md → wY_forget_38 post J (nI z) (nI i) (nI k) (d + 1) (nI c) m md := by
  intro d
  induction d with
  | zero =>
    intro c md hc h
    obtain rfl : c = 10 := by omega
    exact br_t (nI_le (a := 10) (b := 10) (by omega) (by decide)) (nm_e (K md h))
  | succ d ih =>
    intro c md hc h
    have hc9 : c < 10 := by omega
    have hl := zd_wi_lt ha hb3 hk hc9
    exact br_f (nI_ge (b := 10) hc9 (by decide)) ⟨zd_inY hz hk, br_f (zd_f (zd_clY hz hk) hm) (zy_wi ha hb3 hk ⟨vp_in_nI hl (by decide), nm_r (zd_ea (nI_clamp (by omega)) zd_b1) (nm_r (nI_1 c) (ih (c + 1) _ (by omega) (zd_fYw h)))⟩)⟩
theorem zy_forget28 {post : Int32 → SY → Prop} {i : Nat} (hz : z < 4) (ha : 1 ≤ i) (hb3 : i ≤ 3) (h0 : zd_01 m) (K : ∀ B md', zd_Z m z (zd_F (fun p => ¬ m (1000 * z + p) = 0) i) B → post (zd_so B z 1000 0) (B, md')) : ∀ d k md, k + d = 1000 → zd_M (zd_fY i k 0 (fun p => ¬ m (1000 * z + p) = 0)) md → wY_forget_28 post (nI z) (nI i) (d + 1) (nI k) m md := by
  intro d
  induction d with
  | zero =>
    intro k md hk h
    obtain rfl : k = 1000 := by omega
    exact br_t zd_e1000 (zy_take hz h0 (zd_Mif h (fun _ _ => zd_fY1)) K)
  | succ d ih =>
    intro k md hk h
    have hp : k < 1000 := by omega
    have hcl := zd_clY hz hp
    refine br_f (zd_m1000 hp) ?_
    by_cases hm : m (1000 * z + k) = 0
    · exact ⟨0 + 1, br_f (by decide) ⟨zd_inY hz hp, br_t (zd_t hcl hm) (nm_r (nI_1 k) (ih (k + 1) md (by omega) (zd_Mif h (fun _ _ => zd_fYk (fun t => t hm)))))⟩⟩
    · refine ⟨10 + 1, zy_forget38 hz ha hb3 hp hm (fun md' hM => ?_) 10 0 md (by omega) h⟩
      rw [nI_1]
      exact ih (k + 1) md' (by omega) (zd_Mif hM (fun _ _ => zd_fYe hm))
theorem zy_count16 {post : Int32 → Prop} (hz : z < 4) (h : post (nI (zd_cn m z 1000))) : ∀ d i, i + d = 1000 → wY_count_16 post (nI z) m md (d + 1) (nI (zd_cn m z i)) (nI i) := by
  intro d
  induction d with
  | zero =>
    intro i hi
    obtain rfl : i = 1000 := by omega
    exact br_t zd_e1000 h
  | succ d ih =>
    intro i hi
    have hp : i < 1000 := by omega
    have hc := zd_clY hz hp
    have g := ih (i + 1) (by omega)
    unfold zd_cn at g
    refine br_f (zd_m1000 hp) ⟨zd_inY hz hp, ?_⟩
    by_cases hm : m (1000 * z + i) = 0
    · rw [if_pos hm] at g
      exact br_t (zd_t hc hm) (nm_r (nI_1 i) g)
    · rw [if_neg hm] at g
      exact br_f (zd_f hc hm) (nm_r (nI_1 (zd_cn m z i)) (nm_r (nI_1 i) g))
theorem zy_within20 {post : Int32 → Prop} (hz : z < 4) (hy : y < 4) (K : ∀ x, zd_c x (∀ p, p < 1000 → ¬ m (1000 * z + p) = 0 → ¬ m (1000 * y + p) = 0) → post x) : ∀ d i, i + d = 1000 → (∀ p, p < i → ¬ m (1000 * z + p) = 0 → ¬ m (1000 * y + p) = 0) → wY_within_20 post (nI z) (nI y) m md (d + 1) (nI i) := by
  intro d
  induction d with
  | zero =>
    intro i hi h
    obtain rfl : i = 1000 := by omega
    exact br_t zd_e1000 (K 1 (zd_ct h))
  | succ d ih =>
    intro i hi h
    have hp : i < 1000 := by omega
    have hc := zd_clY hz hp
    have hcy := zd_clY hy hp
    refine br_f (zd_m1000 hp) ⟨zd_inY hz hp, ?_⟩
    by_cases hm : m (1000 * z + i) = 0
    · exact br_t (zd_t hc hm) (nm_r (nI_1 i) (ih (i + 1) (by omega) (lt_s h (fun t => absurd hm t))))
    · refine br_f (zd_f hc hm) ⟨zd_inY hy hp, ?_⟩
      by_cases hn : m (1000 * y + i) = 0
      · exact br_t (zd_t hcy hn) (K 0 (zd_cf (fun t => t i hp hm hn)))
      · exact br_f (zd_f hcy hn) (nm_r (nI_1 i) (ih (i + 1) (by omega) (lt_s h (fun _ => hn))))
theorem zy_ms3 {post : Int32 → Prop} {d : Nat} (hz : z < 4) (hy : y < 4) (hd : d ≤ 9) (K : ∀ x, zd_c x (zd_T m z y d) → post x) : ∀ n i, i + n = 1000 → (∀ p, p < i → ¬ (¬ m (1000 * z + p) = 0 ∧ zd_ri d p ∧ ¬ m (1000 * y + (p + 111 * d)) = 0)) → wY_meets_3 post (nI z) (nI y) (nI d) m md (n + 1) (nI i) := by
  intro n
  induction n with
  | zero =>
    intro i hi h
    obtain rfl : i = 1000 := by omega
    exact br_t zd_e1000 (K 0 (zd_cf (fun ⟨p, hp, t⟩ => h p hp t)))
  | succ n ih =>
    intro i hi h
    have hp : i < 1000 := by omega
    have hc := zd_clY hz hp
    have no : ¬ zd_ri d i → wY_meets_57 post (wY_meets_3 post (nI z) (nI y) (nI d) m md (n + 1)) (nI z) (nI y) (nI d) (nI i) m md := fun t => br_t rfl (nm_r (nI_1 i) (ih (i + 1) (by omega) (lt_s h (fun g => t g.2.1))))
    refine br_f (zd_m1000 hp) ?_
    refine zy_co (i := 1) (by omega) hp (pk_le 10 (i % 10 + d) (fun h9 => no (fun t => ?_)) (fun h1 => ?_) rfl (nI_add (i % 10) d) (by omega) (by omega))
    · have := t.1
      omega
    refine zy_co (i := 2) (by omega) hp (pk_le 10 (i / 10 % 10 + d) (fun h9 => no (fun t => ?_)) (fun h2 => ?_) rfl (nI_add (i / 10 % 10) d) (by omega) (by omega))
    · have := t.2.1
      omega
    refine zy_co (i := 3) (by omega) hp (pk_le 10 (i / 100 + d) (fun h9 => no (fun t => ?_)) (fun h3 => ?_) rfl (nI_add (i / 100) d) (by omega) (by omega))
    · have := t.2.2
      omega
    have hri : zd_ri d i := ⟨by omega, by omega, by omega⟩
    have hl : i + 111 * d < 1000 := zd_ri_lt hri
    have e : 1000 * nI y + nI i + 111 * nI d = nI (1000 * y + (i + 111 * d)) := by
      rw [zd_xY, show 111 * nI d = nI (111 * d) from pk_mul 111 d, nI_add]
      exact congrArg nI (by omega)
    have hcy : (1000 * nI y + nI i + 111 * nI d).toNatClampNeg = 1000 * y + (i + 111 * d) := by rw [e]; exact zd_cl hy hl
    refine br_f (by decide) ⟨zd_inY hz hp, ?_⟩
    by_cases hm : m (1000 * z + i) = 0
    · exact br_t (zd_t hc hm) (nm_r (nI_1 i) (ih (i + 1) (by omega) (lt_s h (fun t => t.1 hm))))
    · refine br_f (zd_f hc hm) ⟨by rw [e]; exact zd_in hy hl, ?_⟩
      by_cases hn : m (1000 * y + (i + 111 * d)) = 0
      · exact br_t (zd_t hcy hn) (nm_r (nI_1 i) (ih (i + 1) (by omega) (lt_s h (fun t => t.2.2 hn))))
      · exact br_f (zd_f hcy hn) (K 1 (zd_ct ⟨i, hp, hm, hri, hn⟩))
theorem zy_ms {post : Int32 → Prop} {d : Nat} (hz : z < 4) (hy : y < 4) (hd : d ≤ 9) (K : ∀ x, zd_c x (zd_T m z y d) → post x) : wpY_meets post (m, md) (nI z) (nI y) (nI d) := ⟨1000 + 1, zy_ms3 hz hy hd K 1000 0 (by omega) (fun _ h => absurd h (by omega))⟩
theorem zy_meeting22 {post : Int32 → Prop} (hz : z < 4) (hy : y < 4) : ∀ n d, d + n = 10 → post (zd_me (zd_T m z y) n d) → wY_meeting_22 post (nI z) (nI y) m md (n + 1) (nI d) := by
  intro n
  induction n with
  | zero =>
    intro d hd h
    obtain rfl : d = 10 := by omega
    exact br_t (nI_le (a := 10) (b := 10) (by omega) (by decide)) h
  | succ n ih =>
    intro d hd h
    unfold zd_me at h
    refine br_f (nI_ge (b := 10) (by omega) (by decide)) (zy_ms hz hy (by omega) (fun x hx => br_c (fun hx0 => ?_) (fun hx0 => ?_)))
    · rw [if_neg ((zd_c0 hx).mp hx0)] at h
      exact nm_r (nI_1 d) (ih (d + 1) (by omega) h)
    · rw [if_pos ((zd_cn0 hx).mp hx0)] at h
      exact h
theorem zy_spread80 {post : Int32 → Prop} {s : Int32} (h : post (nI (zd_cs (zd_bm s) 19))) : ∀ n i, i + n = 19 → wY_spread_80 post s m md (n + 1) (nI (zd_cs (zd_bm s) i)) (nI i) := by
  intro n
  induction n with
  | zero =>
    intro i hi
    obtain rfl : i = 19 := by omega
    exact br_t (nI_le (a := 19) (b := 19) (by omega) (by decide)) h
  | succ n ih =>
    intro i hi
    have e : nI (zd_cs (zd_bm s) i) + ((s >>> (nI i &&& 31)) &&& 1) = nI (zd_cs (zd_bm s) (i + 1)) := by
      have u : zd_cs (zd_bm s) (i + 1) = if zd_bm s i = 0 then zd_cs (zd_bm s) i else zd_cs (zd_bm s) i + 1 := rfl
      rw [zd_bit (by omega), u]
      by_cases hb : bt s i = true
      · have g : ¬ zd_bm s i = 0 := by
          unfold zd_bm
          rw [if_pos hb]
          decide
        rw [if_pos hb, if_neg g]
        exact nI_1 _
      · have g : zd_bm s i = 0 := by
          unfold zd_bm
          rw [if_neg hb]
        rw [if_neg hb, if_pos g, Int32.add_zero]
    exact br_f (nI_ge (b := 19) (by omega) (by decide)) (nm_r e (nm_r (nI_1 i) (ih (i + 1) (by omega))))
theorem zy_spread25 {post : Int32 → Prop} {r : Nat} (hz : z < 4) (hr : r < 16) (K : ∀ s, (∀ d, d < 19 → (bt s d = true ↔ zd_S m z r 1000 d)) → post (nI (zd_cs (zd_bm s) 19))) : ∀ n i s, i + n = 1000 → (∀ d, d < 19 → (bt s d = true ↔ zd_S m z r i d)) → wY_spread_25 post (nI z) (nI r) m md (n + 1) s (nI i) := by
  intro n
  induction n with
  | zero =>
    intro i s hi h
    obtain rfl : i = 1000 := by omega
    exact br_t zd_e1000 ⟨19 + 1, zy_spread80 (K s h) 19 0 (by omega)⟩
  | succ n ih =>
    intro i s hi h
    have hp : i < 1000 := by omega
    have hc := zd_clY hz hp
    have hl := zd_d9_lt (r := r) hp
    refine br_f (zd_m1000 hp) ⟨zd_inY hz hp, ?_⟩
    by_cases hm : m (1000 * z + i) = 0
    · refine br_t (zd_t hc hm) (nm_r (nI_1 i) (ih (i + 1) s (by omega) (fun d hd => (h d hd).trans ?_)))
      rw [zd_S_s]
      exact ⟨Or.inl, fun t => t.elim id (fun t => absurd hm t.1)⟩
    · refine br_f (zd_f hc hm) (zy_di hr hp (nm_r (by rw [zd_d9I hp]) (nm_r (nI_1 i) (ih (i + 1) (s ||| ((1 : Int32) <<< (nI (zd_d9 r i) &&& 31))) (by omega) (fun d hd => ?_)))))
      rw [zd_btor (by omega) (by omega), h d hd, zd_S_s]
      constructor
      · rintro (t | t)
        · exact Or.inl t
        · exact Or.inr ⟨hm, t.symm⟩
      · rintro (t | t)
        · exact Or.inl t
        · exact Or.inr t.2.symm
end walkY2
