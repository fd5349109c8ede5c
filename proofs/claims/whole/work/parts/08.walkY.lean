/-! the reference's loops, each against the same sets -/
section walkY
variable {m md : Nat → Int32} {z y : Nat}
theorem zy_so2 {post : Int32 → Prop} (hz : z < 4) : ∀ d i, i + d = 1000 → post (zd_so m z d i) → wY_some_2 post (nI z) m md (d + 1) (nI i) := by
  intro d
  induction d with
  | zero =>
    intro i hi h
    obtain rfl : i = 1000 := by omega
    exact br_t zd_e1000 h
  | succ d ih =>
    intro i hi h
    have hp : i < 1000 := by omega
    have hc := zd_clY hz hp
    unfold zd_so zd_lo at h
    refine br_f (zd_m1000 hp) ⟨zd_inY hz hp, ?_⟩
    by_cases hm : m (1000 * z + i) = 0
    · rw [if_pos hm] at h
      exact br_t (zd_t hc hm) (nm_r (nI_1 i) (ih (i + 1) (by omega) h))
    · rw [if_neg hm, if_neg (zd_nne (by omega))] at h
      exact br_f (zd_f hc hm) h
theorem zy_so {post : Int32 → Prop} (hz : z < 4) (h : post (zd_so m z 1000 0)) : wpY_some post (m, md) (nI z) := ⟨1000 + 1, zy_so2 hz 1000 0 (by omega) h⟩
theorem zy_least14 {post : Int32 → Prop} (hz : z < 4) : ∀ d i, i + d = 1000 → post (zd_lo m z d i) → wY_least_14 post (nI z) m md (d + 1) (nI i) := by
  intro d
  induction d with
  | zero =>
    intro i hi h
    obtain rfl : i = 1000 := by omega
    exact br_t zd_e1000 h
  | succ d ih =>
    intro i hi h
    have hp : i < 1000 := by omega
    have hc := zd_clY hz hp
    unfold zd_lo at h
    refine br_f (zd_m1000 hp) ⟨zd_inY hz hp, ?_⟩
    by_cases hm : m (1000 * z + i) = 0
    · rw [if_pos hm] at h
      exact br_t (zd_t hc hm) (nm_r (nI_1 i) (ih (i + 1) (by omega) h))
    · rw [if_neg hm] at h
      exact br_f (zd_f hc hm) h
theorem zy_fresh14 {post : Int32 → SY → Prop} {f : Nat → Prop} (hz : z < 4) (K : ∀ B, zd_Z m z (fun _ => True) B → post 0 (B, md)) : ∀ d i A, i + d = 1000 → zd_Z m z (zd_mix i (fun _ => True) f) A → wY_fresh_14 post (nI z) (d + 1) (nI i) A md := by
  intro d
  induction d with
  | zero =>
    intro i A hi h
    obtain rfl : i = 1000 := by omega
    exact br_t zd_e1000 (K A (zd_Ze h))
  | succ d ih =>
    intro i A hi h
    have hp : i < 1000 := by omega
    exact br_f (zd_m1000 hp) ⟨zd_inY hz hp, nm_r (zd_ea (zd_clY hz hp) zd_b1) (nm_r (nI_1 i) (ih (i + 1) _ (by omega) (zd_Zw h hp (zd_ct trivial))))⟩
theorem zy_copy22 {post : Int32 → SY → Prop} (hz : z < 4) (hy : y < 4) (h0 : zd_01 m) (K : ∀ B, zd_Z m z (fun p => ¬ m (1000 * y + p) = 0) B → post 0 (B, md)) : ∀ d i A, i + d = 1000 → zd_Z m z (zd_mix i (fun p => ¬ m (1000 * y + p) = 0) (fun p => ¬ m (1000 * z + p) = 0)) A → wY_copy_22 post (nI z) (nI y) (d + 1) (nI i) A md := by
  intro d
  induction d with
  | zero =>
    intro i A hi h
    obtain rfl : i = 1000 := by omega
    exact br_t zd_e1000 (K A (zd_Ze h))
  | succ d ih =>
    intro i A hi h
    have hp : i < 1000 := by omega
    have hrd : A (1000 * y + i) = m (1000 * y + i) := zd_Zrd h h0 hp (fun _ => zd_mix_i)
    have e : vp_nar .boolean (A (1000 * nI y + nI i).toNatClampNeg) = m (1000 * y + i) := by rw [zd_clY hy hp, hrd, zd_nar (h0 _)]
    exact br_f (zd_m1000 hp) ⟨zd_inY hy hp, zd_inY hz hp, nm_r (zd_ea (zd_clY hz hp) e) (nm_r (nI_1 i) (ih (i + 1) _ (by omega) (zd_Zw h hp (zd_cof (h0 _)))))⟩
theorem zy_con35 {post : Int32 → SY → Prop} {r : Nat} {c : Int32} (hz : z < 4) (hr : r < 16) (K : ∀ B, zd_Z m z (fun p => ¬ m (1000 * z + p) = 0 ∧ zd_D r p ≤ c) B → post (zd_so B z 1000 0) (B, md)) : ∀ d i A, i + d = 1000 → zd_Z m z (zd_mix i (fun p => ¬ m (1000 * z + p) = 0 ∧ zd_D r p ≤ c) (fun p => ¬ m (1000 * z + p) = 0)) A → wY_constrain_35 post (nI z) (nI r) c (d + 1) (nI i) A md := by
  intro d
  induction d with
  | zero =>
    intro i A hi h
    obtain rfl : i = 1000 := by omega
    exact br_t zd_e1000 (zy_so hz (K A (zd_Ze h)))
  | succ d ih =>
    intro i A hi h
    have hp : i < 1000 := by omega
    have hc := zd_clY hz hp
    have hf := zd_Zi h hp
    refine br_f (zd_m1000 hp) ⟨zd_inY hz hp, ?_⟩
    by_cases hm : A (1000 * z + i) = 0
    · exact br_t (zd_t hc hm) ⟨zd_inY hz hp, nm_r (zd_ea hc zd_b0) (nm_r (nI_1 i) (ih (i + 1) _ (by omega) (zd_Zw h hp (zd_cf (fun t => hf.mp hm t.1)))))⟩
    · have hm' : ¬ m (1000 * z + i) = 0 := Classical.not_not.mp (fun t => hm (hf.mpr t))
      refine br_f (zd_f hc hm) (zy_di hr hp ?_)
      by_cases hd : c < zd_D r i
      · exact br_t hd ⟨zd_inY hz hp, nm_r (zd_ea hc zd_b0) (nm_r (nI_1 i) (ih (i + 1) _ (by omega) (zd_Zw h hp (zd_cf (fun t => Int32.not_le.mpr hd t.2)))))⟩
      · exact br_f hd ⟨zd_inY hz hp, nm_r (zd_ea hc zd_b1) (nm_r (nI_1 i) (ih (i + 1) _ (by omega) (zd_Zw h hp (zd_ct ⟨hm', Int32.not_lt.mp hd⟩))))⟩
theorem zy_meet22 {post : Int32 → SY → Prop} (hz : z < 4) (hy : y < 4) (h0 : zd_01 m) (K : ∀ B, zd_Z m z (fun p => ¬ m (1000 * z + p) = 0 ∧ ¬ m (1000 * y + p) = 0) B → post (zd_so B z 1000 0) (B, md)) : ∀ d i A, i + d = 1000 → zd_Z m z (zd_mix i (fun p => ¬ m (1000 * z + p) = 0 ∧ ¬ m (1000 * y + p) = 0) (fun p => ¬ m (1000 * z + p) = 0)) A → wY_meet_22 post (nI z) (nI y) (d + 1) (nI i) A md := by
  intro d
  induction d with
  | zero =>
    intro i A hi h
    obtain rfl : i = 1000 := by omega
    exact br_t zd_e1000 (zy_so hz (K A (zd_Ze h)))
  | succ d ih =>
    intro i A hi h
    have hp : i < 1000 := by omega
    have hrd : A (1000 * y + i) = m (1000 * y + i) := zd_Zrd h h0 hp (fun _ => zd_mix_i)
    have hc := zd_clY hz hp
    have hcy := zd_clY hy hp
    have hf := zd_Zi h hp
    refine br_f (zd_m1000 hp) ⟨zd_inY hz hp, ?_⟩
    by_cases hm : A (1000 * z + i) = 0
    · exact br_t (zd_t hc hm) ⟨zd_inY hz hp, nm_r (zd_ea hc zd_b0) (nm_r (nI_1 i) (ih (i + 1) _ (by omega) (zd_Zw h hp (zd_cf (fun t => hf.mp hm t.1)))))⟩
    · have hm' : ¬ m (1000 * z + i) = 0 := Classical.not_not.mp (fun t => hm (hf.mpr t))
      refine br_f (zd_f hc hm) ⟨zd_inY hy hp, ?_⟩
      by_cases hn : m (1000 * y + i) = 0
      · exact br_t (zd_t hcy (by rw [hrd]; exact hn)) ⟨zd_inY hz hp, nm_r (zd_ea hc zd_b0) (nm_r (nI_1 i) (ih (i + 1) _ (by omega) (zd_Zw h hp (zd_cf (fun t => t.2 hn)))))⟩
      · exact br_f (zd_f hcy (by rw [hrd]; exact hn)) ⟨zd_inY hz hp, nm_r (zd_ea hc zd_b1) (nm_r (nI_1 i) (ih (i + 1) _ (by omega) (zd_Zw h hp (zd_ct ⟨hm', hn⟩))))⟩
theorem zy_gr7 {post : Int32 → Prop} {r : Nat} (hz : z < 4) (hr : r < 16) (h : post (zd_gr m z r 1000)) : ∀ d i, i + d = 1000 → wY_greatest_7 post (nI z) (nI r) m md (d + 1) (zd_gr m z r i) (nI i) := by
  intro d
  induction d with
  | zero =>
    intro i hi
    obtain rfl : i = 1000 := by omega
    exact br_t zd_e1000 h
  | succ d ih =>
    intro i hi
    have hp : i < 1000 := by omega
    have hc := zd_clY hz hp
    have g := ih (i + 1) (by omega)
    unfold zd_gr at g
    refine br_f (zd_m1000 hp) ⟨zd_inY hz hp, ?_⟩
    by_cases hm : m (1000 * z + i) = 0
    · rw [if_pos hm] at g
      exact br_t (zd_t hc hm) (nm_r (nI_1 i) g)
    · rw [if_neg hm] at g
      refine br_f (zd_f hc hm) (zy_di hr hp ?_)
      by_cases hd : zd_D r i ≤ zd_gr m z r i
      · rw [if_pos hd] at g
        exact br_t hd (nm_r (nI_1 i) g)
      · rw [if_neg hd] at g
        exact br_f hd (nm_r (nI_1 i) g)
theorem zy_gr {post : Int32 → Prop} {r : Nat} (hz : z < 4) (hr : r < 16) (h : post (zd_gr m z r 1000)) : wpY_greatest post (m, md) (nI z) (nI r) := ⟨1000 + 1, zy_gr7 hz hr h 1000 0 (by omega)⟩
theorem zy_take2 {post : Int32 → SY → Prop} {T f : Nat → Prop} (hz : z < 4) (hM : zd_M T md) (K : ∀ B, zd_Z m z T B → post (zd_so B z 1000 0) (B, md)) : ∀ d i A, i + d = 1000 → zd_Z m z (zd_mix i T f) A → wY_takeMade_2 post (nI z) (d + 1) (nI i) A md := by
  intro d
  induction d with
  | zero =>
    intro i A hi h
    obtain rfl : i = 1000 := by omega
    exact br_t zd_e1000 (zy_so hz (K A (zd_Ze h)))
  | succ d ih =>
    intro i A hi h
    have hp : i < 1000 := by omega
    have e : vp_nar .boolean (md (nI i).toNatClampNeg) = md i := by rw [nI_clamp (by omega), zd_nar (zd_c01 (hM i hp))]
    exact br_f (zd_m1000 hp) ⟨vp_in_nI hp (by decide), zd_inY hz hp, nm_r (zd_ea (zd_clY hz hp) e) (nm_r (nI_1 i) (ih (i + 1) _ (by omega) (zd_Zw h hp (hM i hp))))⟩
theorem zy_take {post : Int32 → SY → Prop} {T : Nat → Prop} (hz : z < 4) (h0 : zd_01 m) (hM : zd_M T md) (K : ∀ B md', zd_Z m z T B → post (zd_so B z 1000 0) (B, md')) : wpY_takeMade post (m, md) (nI z) := ⟨1000 + 1, zy_take2 hz hM (fun B => K B md) 1000 0 m (by omega) (zd_Z0 h0)⟩
theorem zy_clear2 {post : SY → Prop} (K : ∀ md', zd_M (fun _ => False) md' → post (m, md')) : ∀ d i md, i + d = 1000 → zd_Mf i (fun _ => False) md → wY_clearMade_2 post (d + 1) (nI i) m md := by
  intro d
  induction d with
  | zero =>
    intro i md hi h
    obtain rfl : i = 1000 := by omega
    exact br_t zd_e1000 (K md h)
  | succ d ih =>
    intro i md hi h
    have hp : i < 1000 := by omega
    exact br_f (zd_m1000 hp) ⟨vp_in_nI hp (by decide), nm_r (zd_ea (nI_clamp (by omega)) zd_b0) (nm_r (nI_1 i) (ih (i + 1) _ (by omega) (zd_Mfw h (zd_cf id))))⟩
theorem zy_clear {post : SY → Prop} (K : ∀ md', zd_M (fun _ => False) md' → post (m, md')) : wpY_clearMade post (m, md) := ⟨1000 + 1, zy_clear2 K 1000 0 md (by omega) zd_Mf0⟩
/-! hull -/
theorem zy_hull112 {post : Int32 → SY → Prop} {J : Int32 → (Nat → Int32) → (Nat → Int32) → Prop} {f : Nat → Prop} {x1 x2 most : Int32} {r : Nat} (hr : r < 16) (K : ∀ md', zd_M (fun p => f p ∧ zd_D r p ≤ most) md' → J (nI (r + 1)) m md') : ∀ d i md, i + d = 1000 → zd_M (zd_mix i (fun p => f p ∧ zd_D r p ≤ most) f) md → wY_hull_112 post J x1 x2 (nI r) most (d + 1) (nI i) m md := by
  intro d
  induction d with
  | zero =>
    intro i md hi h
    obtain rfl : i = 1000 := by omega
    exact br_t zd_e1000 (nm_r (nI_1 r) (K md (zd_Me h)))
  | succ d ih =>
    intro i md hi h
    have hp : i < 1000 := by omega
    have hc : (nI i).toNatClampNeg = i := nI_clamp (by omega)
    have hf := zd_Mi h hp
    have hin : vp_in (nI i) 1000 := vp_in_nI hp (by decide)
    refine br_f (zd_m1000 hp) ⟨hin, ?_⟩
    by_cases hm : md i = 0
    · exact br_t (zd_t hc hm) ⟨hin, nm_r (zd_ea hc zd_b0) (nm_r (nI_1 i) (ih (i + 1) _ (by omega) (zd_Mw h (zd_cf (fun t => hf.mp hm t.1)))))⟩
    · have hm' : f i := Classical.not_not.mp (fun t => hm (hf.mpr t))
      refine br_f (zd_f hc hm) (zy_di hr hp ?_)
      by_cases hd : most < zd_D r i
      · exact br_t hd ⟨hin, nm_r (zd_ea hc zd_b0) (nm_r (nI_1 i) (ih (i + 1) _ (by omega) (zd_Mw h (zd_cf (fun t => Int32.not_le.mpr hd t.2)))))⟩
      · exact br_f hd ⟨hin, nm_r (zd_ea hc zd_b1) (nm_r (nI_1 i) (ih (i + 1) _ (by omega) (zd_Mw h (zd_ct ⟨hm', Int32.not_lt.mp hd⟩))))⟩
theorem zy_hull68 {post : Int32 → SY → Prop} {g : Prop} (hz : z < 4) (hy : y < 4) (h0 : zd_01 m) (hg : ¬ g → ∀ p, ¬ zd_H m z y p) (K : ∀ B md', zd_Z m z (zd_H m z y) B → post (zd_so B z 1000 0) (B, md')) : ∀ d i md, i + d = 16 → zd_M (fun p => g ∧ ∀ r, r < i → zd_D r p ≤ zd_hb m z y r) md → wY_hull_68 post (nI z) (nI y) (d + 1) (nI i) m md := by
  intro d
  induction d with
  | zero =>
    intro i md hi h
    obtain rfl : i = 16 := by omega
    refine br_t (nI_le (a := 16) (b := 16) (by omega) (by decide)) (zy_take hz h0 (zd_Mif h (fun p _ => ⟨fun t => t.2, fun t => ⟨?_, t⟩⟩)) K)
    by_cases hgg : g
    · exact hgg
    · exact absurd t (hg hgg p)
  | succ d ih =>
    intro i md hi h
    have hi6 : i < 16 := by omega
    refine br_f (nI_ge (b := 16) hi6 (by decide)) (zy_gr hz hi6 (zy_gr hy hi6 ?_))
    have nx : ∀ v, v = zd_hb m z y i → ∃ n, wY_hull_112 post (wY_hull_68 post (nI z) (nI y) (d + 1)) (nI z) (nI y) (nI i) v n 0 m md := by
      intro v hv
      refine ⟨1000 + 1, zy_hull112 hi6 (fun md' hM => ih (i + 1) md' (by omega) (zd_Mif hM (fun p _ => ?_))) 1000 0 md (by omega) (zd_M0 h)⟩
      rw [hv]
      constructor
      · rintro ⟨⟨t1, t2⟩, t3⟩
        exact ⟨t1, lt_s t2 t3⟩
      · rintro ⟨t1, t2⟩
        exact ⟨⟨t1, fun r hr => t2 r (by omega)⟩, t2 i (by omega)⟩
    by_cases hd : zd_gr m z i 1000 ≤ zd_gr m y i 1000
    · exact br_t hd (nx _ (by unfold zd_hb; rw [if_pos hd]))
    · exact br_f hd (nx _ (by unfold zd_hb; rw [if_neg hd]))
theorem zy_hull35 {post : Int32 → SY → Prop} {any : Int32} (hz : z < 4) (hy : y < 4) (h0 : zd_01 m) (hg : any ≤ 0 → ∀ p, ¬ zd_H m z y p) (K : ∀ B md', zd_Z m z (zd_H m z y) B → post (zd_so B z 1000 0) (B, md')) : ∀ d i md, i + d = 1000 → zd_Mf i (fun _ => ¬ any ≤ 0) md → wY_hull_35 post (nI z) (nI y) any (d + 1) (nI i) m md := by
  intro d
  induction d with
  | zero =>
    intro i md hi h
    obtain rfl : i = 1000 := by omega
    exact br_t zd_e1000 ⟨16 + 1, zy_hull68 (g := ¬ any ≤ 0) hz hy h0 (fun t => hg (Classical.not_not.mp t)) K 16 0 md (by omega) (zd_Mif h (fun p _ => ⟨fun t => ⟨t, fun r hr => absurd hr (by omega)⟩, fun t => t.1⟩))⟩
  | succ d ih =>
    intro i md hi h
    have hp : i < 1000 := by omega
    have hc : (nI i).toNatClampNeg = i := nI_clamp (by omega)
    have hin : vp_in (nI i) 1000 := vp_in_nI hp (by decide)
    refine br_f (zd_m1000 hp) (br_c (fun ha => ?_) (fun ha => ?_))
    · exact ⟨hin, nm_r (zd_ea hc zd_b0) (nm_r (nI_1 i) (ih (i + 1) _ (by omega) (zd_Mfw h (zd_cf (fun t => t ha)))))⟩
    · exact ⟨hin, nm_r (zd_ea hc zd_b1) (nm_r (nI_1 i) (ih (i + 1) _ (by omega) (zd_Mfw h (zd_ct ha))))⟩
theorem zd_so01 (m : Nat → Int32) (z n i : Nat) : (zd_so m z n i = 0 ∧ zd_lo m z n i = -2000) ∨ zd_so m z n i = 1 := by
  unfold zd_so
  by_cases h : zd_lo m z n i = -2000
  · left
    exact ⟨if_pos h, h⟩
  · right
    exact if_neg h
theorem zd_any : zd_so m z 1000 0 + zd_so m y 1000 0 ≤ 0 → ∀ p, ¬ zd_H m z y p := by
  intro h p
  rcases zd_so01 m z 1000 0 with ⟨a, a'⟩ | a <;> rcases zd_so01 m y 1000 0 with ⟨b, b'⟩ | b <;> rw [a, b] at h
  · exact zd_H0 a' b'
  · exact absurd h (by decide)
  · exact absurd h (by decide)
  · exact absurd h (by decide)
end walkY
