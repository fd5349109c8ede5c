/-! the component's loops, each against the sets -/
section walkX
variable {m hb se : Nat → Int32} {z y : Nat}
theorem zx_lo2 {post : Int32 → Prop} (hz : z < 4) : ∀ d i, i + d = 1000 → post (zd_lo m z d i) → wX_lowestPoint_2 post (nI z) m hb se (d + 1) (nI i) := by
  intro d
  induction d with
  | zero =>
    intro i hi h
    obtain rfl : i = 1000 := by omega
    exact br_t zd_e1000 h
  | succ d ih =>
    intro i hi h
    have hp : i < 1000 := by omega
    have hc := zd_clX hz hp
    unfold zd_lo at h
    refine br_f (zd_m1000 hp) ⟨zd_inX hz hp, ?_⟩
    by_cases hm : m (1000 * z + i) = 0
    · rw [if_pos hm] at h
      exact br_t (zd_t hc hm) (nm_r (nI_1 i) (ih (i + 1) (by omega) h))
    · rw [if_neg hm] at h
      exact br_f (zd_f hc hm) h
theorem zx_lo {post : Int32 → Prop} (hz : z < 4) (h : post (zd_lo m z 1000 0)) : wpX_lowestPoint post (m, hb, se) (nI z) := ⟨1000 + 1, zx_lo2 hz 1000 0 (by omega) h⟩
theorem zx_one {post : Int32 → Prop} (hz : z < 4) (h : post (zd_so m z 1000 0)) : wpX_oneIfPoints post (m, hb, se) (nI z) := by
  unfold wpX_oneIfPoints
  unfold zd_so at h
  refine zx_lo hz (br_c (fun e => ?_) (fun e => ?_))
  · rw [if_pos e] at h; exact h
  · rw [if_neg e] at h; exact h
theorem zx_mark2 {post : SX → Prop} {f : Nat → Prop} (hz : z < 4) (K : ∀ B, zd_Z m z (fun _ => True) B → post (B, hb, se)) : ∀ d i A, i + d = 1000 → zd_Z m z (zd_mix i (fun _ => True) f) A → wX_markAll_2 post (nI z) (d + 1) (nI i) A hb se := by
  intro d
  induction d with
  | zero =>
    intro i A hi h
    obtain rfl : i = 1000 := by omega
    exact br_t zd_e1000 (K A (zd_Ze h))
  | succ d ih =>
    intro i A hi h
    have hp : i < 1000 := by omega
    exact br_f (zd_m1000 hp) ⟨zd_inX hz hp, nm_r (zd_ea (zd_clX hz hp) zd_b1) (nm_r (nI_1 i) (ih (i + 1) _ (by omega) (zd_Zw h hp (zd_ct trivial))))⟩
theorem zx_mark {post : SX → Prop} (hz : z < 4) (h0 : zd_01 m) (K : ∀ B, zd_Z m z (fun _ => True) B → post (B, hb, se)) : wpX_markAll post (m, hb, se) (nI z) := ⟨1000 + 1, zx_mark2 hz K 1000 0 m (by omega) (zd_Z0 h0)⟩
theorem zx_copy20 {post : Int32 → SX → Prop} (hz : z < 4) (hy : y < 4) (h0 : zd_01 m) (K : ∀ B, zd_Z m z (fun p => ¬ m (1000 * y + p) = 0) B → post 0 (B, hb, se)) : ∀ d i A, i + d = 1000 → zd_Z m z (zd_mix i (fun p => ¬ m (1000 * y + p) = 0) (fun p => ¬ m (1000 * z + p) = 0)) A → wX_copy_20 post (nI z) (nI y) (d + 1) (nI i) A hb se := by
  intro d
  induction d with
  | zero =>
    intro i A hi h
    obtain rfl : i = 1000 := by omega
    exact br_t zd_e1000 (K A (zd_Ze h))
  | succ d ih =>
    intro i A hi h
    have hp : i < 1000 := by omega
    have hrd : A (1000 * y + i) = m (1000 * y + i) := zd_Zrd h h0 hp (fun _ => zd_mix_i)
    have e : vp_nar .boolean (A (nI y * 1000 + nI i).toNatClampNeg) = m (1000 * y + i) := by rw [zd_clX hy hp, hrd, zd_nar (h0 _)]
    exact br_f (zd_m1000 hp) ⟨zd_inX hy hp, zd_inX hz hp, nm_r (zd_ea (zd_clX hz hp) e) (nm_r (nI_1 i) (ih (i + 1) _ (by omega) (zd_Zw h hp (zd_cof (h0 _)))))⟩
theorem zx_con33 {post : Int32 → SX → Prop} {r : Nat} {c : Int32} (hz : z < 4) (hr : r < 16) (K : ∀ B, zd_Z m z (fun p => ¬ m (1000 * z + p) = 0 ∧ zd_D r p ≤ c) B → post (zd_so B z 1000 0) (B, hb, se)) : ∀ d i A, i + d = 1000 → zd_Z m z (zd_mix i (fun p => ¬ m (1000 * z + p) = 0 ∧ zd_D r p ≤ c) (fun p => ¬ m (1000 * z + p) = 0)) A → wX_constrain_33 post (nI z) (nI r) c (d + 1) (nI i) A hb se := by
  intro d
  induction d with
  | zero =>
    intro i A hi h
    obtain rfl : i = 1000 := by omega
    exact br_t zd_e1000 (zx_one hz (K A (zd_Ze h)))
  | succ d ih =>
    intro i A hi h
    have hp : i < 1000 := by omega
    refine br_f (zd_m1000 hp) (zx_di hr hp ?_)
    by_cases hc : zd_D r i ≤ c
    · exact br_t hc (nm_r (nI_1 i) (ih (i + 1) A (by omega) (zd_Zk h ⟨fun t => t.1, fun t => ⟨t, hc⟩⟩)))
    · exact br_f hc ⟨zd_inX hz hp, nm_r (zd_ea (zd_clX hz hp) zd_b0) (nm_r (nI_1 i) (ih (i + 1) _ (by omega) (zd_Zw h hp (zd_cf (fun t => hc t.2)))))⟩
theorem zx_meet20 {post : Int32 → SX → Prop} (hz : z < 4) (hy : y < 4) (h0 : zd_01 m) (K : ∀ B, zd_Z m z (fun p => ¬ m (1000 * z + p) = 0 ∧ ¬ m (1000 * y + p) = 0) B → post (zd_so B z 1000 0) (B, hb, se)) : ∀ d i A, i + d = 1000 → zd_Z m z (zd_mix i (fun p => ¬ m (1000 * z + p) = 0 ∧ ¬ m (1000 * y + p) = 0) (fun p => ¬ m (1000 * z + p) = 0)) A → wX_meet_20 post (nI z) (nI y) (d + 1) (nI i) A hb se := by
  intro d
  induction d with
  | zero =>
    intro i A hi h
    obtain rfl : i = 1000 := by omega
    exact br_t zd_e1000 (zx_one hz (K A (zd_Ze h)))
  | succ d ih =>
    intro i A hi h
    have hp : i < 1000 := by omega
    have hrd : A (1000 * y + i) = m (1000 * y + i) := zd_Zrd h h0 hp (fun _ => zd_mix_i)
    have hc := zd_clX hy hp
    refine br_f (zd_m1000 hp) ⟨zd_inX hy hp, ?_⟩
    by_cases hm : m (1000 * y + i) = 0
    · exact br_t (zd_t hc (by rw [hrd]; exact hm)) ⟨zd_inX hz hp, nm_r (zd_ea (zd_clX hz hp) zd_b0) (nm_r (nI_1 i) (ih (i + 1) _ (by omega) (zd_Zw h hp (zd_cf (fun t => t.2 hm)))))⟩
    · exact br_f (zd_f hc (by rw [hrd]; exact hm)) (nm_r (nI_1 i) (ih (i + 1) A (by omega) (zd_Zk h ⟨fun t => t.1, fun t => ⟨t, hm⟩⟩)))
theorem zx_gr7 {post : Int32 → Prop} {r : Nat} (hz : z < 4) (hr : r < 16) (h : post (zd_gr m z r 1000)) : ∀ d i, i + d = 1000 → wX_greatestDifference_7 post (nI z) (nI r) m hb se (d + 1) (zd_gr m z r i) (nI i) := by
  intro d
  induction d with
  | zero =>
    intro i hi
    obtain rfl : i = 1000 := by omega
    exact br_t zd_e1000 h
  | succ d ih =>
    intro i hi
    have hp : i < 1000 := by omega
    have hc := zd_clX hz hp
    have g := ih (i + 1) (by omega)
    unfold zd_gr at g
    refine br_f (zd_m1000 hp) (zx_di hr hp ⟨zd_inX hz hp, ?_⟩)
    by_cases hm : m (1000 * z + i) = 0
    · rw [if_pos hm] at g
      exact br_t (zd_t hc hm) (nm_r (nI_1 i) g)
    · rw [if_neg hm] at g
      by_cases hd : zd_D r i ≤ zd_gr m z r i
      · rw [if_pos hd] at g
        exact br_f (zd_f hc hm) (br_t hd (nm_r (nI_1 i) g))
      · rw [if_neg hd] at g
        exact br_f (zd_f hc hm) (br_f hd (nm_r (nI_1 i) g))
theorem zx_gr {post : Int32 → Prop} {r : Nat} (hz : z < 4) (hr : r < 16) (h : post (zd_gr m z r 1000)) : wpX_greatestDifference post (m, hb, se) (nI z) (nI r) := ⟨1000 + 1, zx_gr7 hz hr h 1000 0 (by omega)⟩
theorem zx_kh2 {post : Int32 → Prop} {p : Nat} (hp : p < 1000) (K : ∀ x, zd_c x (∀ r, r < 16 → zd_D r p ≤ hb r) → post x) : ∀ d i, i + d = 16 → (∀ r, r < i → zd_D r p ≤ hb r) → wX_keepsHullBounds_2 post (nI p) m hb se (d + 1) (nI i) := by
  intro d
  induction d with
  | zero =>
    intro i hi h
    obtain rfl : i = 16 := by omega
    exact br_t (nI_le (a := 16) (b := 16) (by omega) (by decide)) (K 1 (zd_ct h))
  | succ d ih =>
    intro i hi h
    have hc : (nI i).toNatClampNeg = i := nI_clamp (by omega)
    refine br_f (nI_ge (b := 16) (by omega) (by decide)) (zx_di (by omega) hp ⟨vp_in_nI (by omega) (by decide), ?_⟩)
    by_cases hd : zd_D i p ≤ hb i
    · exact br_t (by rw [hc]; exact hd) (nm_r (nI_1 i) (ih (i + 1) (by omega) (lt_s h hd)))
    · exact br_f (by rw [hc]; exact hd) (K 0 (zd_cf (fun t => hd (t i (by omega)))))
theorem zx_kh {post : Int32 → Prop} {p : Nat} (hp : p < 1000) (K : ∀ x, zd_c x (∀ r, r < 16 → zd_D r p ≤ hb r) → post x) : wpX_keepsHullBounds post (m, hb, se) (nI p) := ⟨16 + 1, zx_kh2 hp K 16 0 (by omega) (fun _ h => absurd h (by omega))⟩
theorem zx_hull70 {post : Int32 → SX → Prop} {T f : Nat → Prop} (hz : z < 4) (hT : ∀ p, p < 1000 → ((∀ r, r < 16 → zd_D r p ≤ hb r) ↔ T p)) (K : ∀ B, zd_Z m z T B → post (zd_so B z 1000 0) (B, hb, se)) : ∀ d i A, i + d = 1000 → zd_Z m z (zd_mix i T f) A → wX_hull_70 post (nI z) (d + 1) (nI i) A hb se := by
  intro d
  induction d with
  | zero =>
    intro i A hi h
    obtain rfl : i = 1000 := by omega
    exact br_t zd_e1000 (zx_one hz (K A (zd_Ze h)))
  | succ d ih =>
    intro i A hi h
    have hp : i < 1000 := by omega
    exact br_f (zd_m1000 hp) (zx_kh hp (fun x hx => ⟨zd_inX hz hp, nm_r (zd_ea (zd_clX hz hp) (zd_nar (zd_c01 hx))) (nm_r (nI_1 i) (ih (i + 1) _ (by omega) (zd_Zw h hp (zd_cif hx (hT i hp)))))⟩))
theorem zx_hull20 {post : Int32 → SX → Prop} (hz : z < 4) (hy : y < 4) (h0 : zd_01 m) (K : ∀ B hb', zd_Z m z (zd_H m z y) B → post (zd_so B z 1000 0) (B, hb', se)) : ∀ d i (hb : Nat → Int32), i + d = 16 → (∀ r, r < i → hb r = zd_hb m z y r) → wX_hull_20 post (nI z) (nI y) (d + 1) (nI i) m hb se := by
  intro d
  induction d with
  | zero =>
    intro i hb hi h
    obtain rfl : i = 16 := by omega
    refine br_t (nI_le (a := 16) (b := 16) (by omega) (by decide)) ⟨1000 + 1, zx_hull70 hz (T := zd_H m z y) (fun p hp => ?_) (fun B => K B hb) 1000 0 m (by omega) (zd_Z0 h0)⟩
    constructor
    · intro t r hr
      rw [← h r hr]
      exact t r hr
    · intro t r hr
      rw [h r hr]
      exact t r hr
  | succ d ih =>
    intro i hb hi h
    have hi6 : i < 16 := by omega
    have hc : (nI i).toNatClampNeg = i := nI_clamp (by omega)
    have nx : ∀ v, v = zd_hb m z y i → ∀ r, r < i + 1 → upd hb i v r = zd_hb m z y r := by
      intro v hv r hr
      by_cases hri : r = i
      · subst hri
        rw [pk_us, hv]
      · rw [pk_un hri]
        exact h r (by omega)
    refine br_f (nI_ge (b := 16) (by omega) (by decide)) (zx_gr hz hi6 (zx_gr hy hi6 ?_))
    by_cases hd : zd_gr m z i 1000 ≤ zd_gr m y i 1000
    · exact br_t hd ⟨vp_in_nI hi6 (by decide), nm_r (by rw [hc]) (nm_r (nI_1 i) (ih (i + 1) (upd hb i (zd_gr m y i 1000)) (by omega) (nx _ (by unfold zd_hb; rw [if_pos hd]))))⟩
    · exact br_f hd ⟨vp_in_nI hi6 (by decide), nm_r (by rw [hc]) (nm_r (nI_1 i) (ih (i + 1) (upd hb i (zd_gr m z i 1000)) (by omega) (nx _ (by unfold zd_hb; rw [if_neg hd]))))⟩
theorem zd_x111 {i : Nat} : nI z * 1000 + nI i + 111 = nI (1000 * z + (i + 111)) := by
  rw [zd_xX]
  exact (nI_add _ 111).trans (congrArg nI (by omega))
theorem zx_delay13 {post : Int32 → SX → Prop} (hz : z < 4) (K : ∀ B, zd_Z m z (zd_U (fun p => ¬ m (1000 * z + p) = 0)) B → post (zd_so B z 1000 0) (B, hb, se)) : ∀ d i A, i + d = 1000 → zd_Z m z (zd_dX i (fun p => ¬ m (1000 * z + p) = 0)) A → wX_delay_13 post (nI z) (d + 1) (nI i) A hb se := by
  intro d
  induction d with
  | zero =>
    intro i A hi h
    obtain rfl : i = 1000 := by omega
    exact br_t zd_e1000 (zx_one hz (K A (zd_Zif h (fun _ hq => zd_dXe hq))))
  | succ d ih =>
    intro i A hi h
    have hp : i < 1000 := by omega
    have hc := zd_clX hz hp
    have hr := zd_dXr h hp
    refine br_f (zd_m1000 hp) ⟨zd_inX hz hp, ?_⟩
    by_cases hm : A (1000 * z + i) = 0
    · exact br_t (zd_t hc hm) (nm_r (nI_1 i) (ih (i + 1) A (by omega) (zd_dXk h (fun t => hr.mpr t.1 hm))))
    · refine br_f (zd_f hc hm) (zx_ri (d := 1) hp (by omega) (fun x hx => br_c (fun hx0 => nm_r (nI_1 i) (ih (i + 1) A (by omega) (zd_dXk h (fun t => (zd_c0 hx).mp hx0 t.2)))) (fun hx0 => ?_)))
      have hri := (zd_cn0 hx).mp hx0
      have hl : i + 111 < 1000 := zd_ri_lt (t := 1) hri
      refine ⟨by rw [zd_x111]; exact zd_in hz hl, nm_r (zd_ea (by rw [zd_x111]; exact zd_cl hz hl) zd_b1) (nm_r (nI_1 i) (ih (i + 1) _ (by omega) (zd_dXw h (hr.mp hm) hri)))⟩
theorem zx_pastS {post : Int32 → SX → Prop} {f : Nat → Prop} {A : Nat → Int32} {n i : Nat} (hz : z < 4) (hp : i < 1000) (h : zd_Z m z (zd_pX (i + 1) f) A) (nx : ∀ B, zd_Z m z (zd_pX i f) B → wX_past_15 post (nI z) n (nI i + (-1)) B hb se) : wX_past_15 post (nI z) (n + 1) (nI i) A hb se := by
  refine br_f (nI_pos (by omega)) (zx_ri (d := 1) hp (by omega) (fun x hx => br_c (fun hx0 => nm_e (nx A (zd_pXk h hp (fun t => (zd_c0 hx).mp hx0 t.1)))) (fun hx0 => ?_)))
  have hri := (zd_cn0 hx).mp hx0
  have hl : i + 111 < 1000 := zd_ri_lt (t := 1) hri
  have hc : (nI z * 1000 + nI i + 111).toNatClampNeg = 1000 * z + (i + 111) := by rw [zd_x111]; exact zd_cl hz hl
  refine ⟨by rw [zd_x111]; exact zd_in hz hl, ?_⟩
  by_cases hm : A (1000 * z + (i + 111)) = 0
  · exact br_t (zd_t hc hm) (nm_e (nx A (zd_pXk h hp (fun t => (zd_pXr h hri).mpr t.2 hm))))
  · exact br_f (zd_f hc hm) ⟨zd_inX hz hp, nm_r (zd_ea (zd_clX hz hp) zd_b1) (nm_e (nx _ (zd_pXw h hp hri ((zd_pXr h hri).mp hm))))⟩
theorem zx_past15 {post : Int32 → SX → Prop} {f : Nat → Prop} (hz : z < 4) (K : ∀ B, zd_Z m z (zd_V f) B → post (zd_so B z 1000 0) (B, hb, se)) : ∀ i A, i < 1000 → zd_Z m z (zd_pX (i + 1) f) A → wX_past_15 post (nI z) (i + 2) (nI i) A hb se := by
  intro i
  induction i with
  | zero =>
    intro A hi h
    refine zx_pastS hz hi h (fun B hB => ?_)
    rw [show nI 0 + (-1) = -1 by decide]
    exact br_t (by decide) (zx_one hz (K B (zd_Zif hB (fun _ _ => zd_pXe))))
  | succ i ih =>
    intro A hi h
    refine zx_pastS hz hi h (fun B hB => ?_)
    rw [pk_m1]
    exact ih B (by omega) hB
end walkX
