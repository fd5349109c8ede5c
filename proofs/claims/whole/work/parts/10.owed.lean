/-! what is owed -/
/-- both sides mark the same points, and every mark is 0 or 1; what else they hold is filled anew by each call that reads it -/
def i_Rel (_ : Nat) (u : SX) (v : SY) : Prop := u.1 = v.1 ∧ zd_01 u.1
theorem i_up {k : Nat} {u : SX} {v : SY} (h : i_Rel k u v) : i_Rel (k + 4) u v := h
/-- the first n marks are set -/
def zd_I (n : Nat) : Nat → Int32 := fun j => if j < n then 1 else 0
theorem zd_I01 (n : Nat) : zd_01 (zd_I n) := by
  intro j
  unfold zd_I
  by_cases h : j < n
  · rw [if_pos h]
    exact Or.inr rfl
  · rw [if_neg h]
    exact Or.inl rfl
theorem zd_I0 : zd_I 0 = fun _ => 0 := by
  funext j
  exact if_neg (by omega)
theorem zd_Iu (n : Nat) : upd (zd_I n) n 1 = zd_I (n + 1) := by
  funext j
  by_cases h : j = n
  · subst h
    rw [pk_us]
    unfold zd_I
    rw [if_pos (by omega)]
  · rw [pk_un h]
    unfold zd_I
    by_cases h2 : j < n
    · rw [if_pos h2, if_pos (by omega)]
    · rw [if_neg h2, if_neg (by omega)]
theorem zd_IZ {z : Nat} {B : Nat → Int32} (h : zd_Z (zd_I (1000 * z)) z (fun _ => True) B) : B = zd_I (1000 * (z + 1)) := by
  refine zd_Zu h ⟨fun j hj => ?_, fun p hp => ?_⟩
  · unfold zd_I
    rcases hj with hj | hj
    · rw [if_pos (by omega), if_pos hj]
    · rw [if_neg (by omega), if_neg (by omega)]
  · unfold zd_I
    rw [if_pos (by omega)]
    exact zd_ct trivial
theorem zx_init31 {post : SX → Prop} (h : post (zd_I 4000, fun _ => 0, fun _ => 0)) : ∀ d z, z + d = 4 → wX_init_31 post (d + 1) (nI z) (zd_I (1000 * z)) (fun _ => 0) (fun _ => 0) := by
  intro d
  induction d with
  | zero =>
    intro z hz
    obtain rfl : z = 4 := by omega
    exact br_t (nI_le (a := 4) (b := 4) (by omega) (by decide)) h
  | succ d ih =>
    intro z hz
    have hz4 : z < 4 := by omega
    refine br_f (nI_ge (b := 4) hz4 (by decide)) (zx_mark hz4 (zd_I01 _) (fun B hB => ?_))
    have e := zd_IZ hB
    subst e
    exact nm_r (nI_1 z) (ih (z + 1) (by omega))
theorem zy_init24 {post : SY → Prop} (h : post (zd_I 4000, fun _ => 0)) : ∀ d i, i + d = 4000 → wY_init_24 post (d + 1) (nI i) (zd_I i) (fun _ => 0) := by
  intro d
  induction d with
  | zero =>
    intro i hi
    obtain rfl : i = 4000 := by omega
    exact br_t (nI_le (a := 4000) (b := 4000) (by omega) (by decide)) h
  | succ d ih =>
    intro i hi
    have hi4 : i < 4000 := by omega
    refine br_f (nI_ge (b := 4000) hi4 (by decide)) ⟨vp_in_nI hi4 (by decide), nm_r (zd_ea (nI_clamp (by omega)) zd_b1) ?_⟩
    rw [zd_Iu]
    exact nm_r (nI_1 i) (ih (i + 1) (by omega))
theorem i_vc0 : wpX_init (fun u => wpY_init (fun v => i_Rel 0 u v)) := by
  have gy : wpY_init (fun v => i_Rel 0 (zd_I 4000, fun _ => 0, fun _ => 0) v) := by
    have g := zy_init24 (post := fun v => i_Rel 0 (zd_I 4000, fun _ => 0, fun _ => 0) v) ⟨rfl, zd_I01 4000⟩ 4000 0 (by omega)
    rw [zd_I0] at g
    exact ⟨4000 + 1, g⟩
  have g := zx_init31 (post := fun u => wpY_init (fun v => i_Rel 0 u v)) gy 4 0 (by omega)
  rw [show 1000 * 0 = 0 from rfl, zd_I0] at g
  exact ⟨4 + 1, g⟩
section owed
variable {k : Nat} {m hb se md : Nat → Int32}
theorem zd_rel (h0 : zd_01 m) {z : Nat} {S : Nat → Prop} {B B' : Nat → Int32} {hb' se' md' : Nat → Int32} (h : zd_Z m z S B) (h' : zd_Z m z S B') : i_Rel k (B, hb', se') (B', md') := ⟨zd_Zu h h', zd_Z01 h h0⟩
theorem zd_ans {z : Nat} {S : Nat → Prop} {B B' : Nat → Int32} (h : zd_Z m z S B) (h' : zd_Z m z S B') : zd_so B' z 1000 0 = zd_so B z 1000 0 := by rw [zd_Zu h h']
end owed
theorem i_vc_fresh {k : Nat} {u : SX} {v : SY} (I : i_Rel k u v) (hk : k + 4 ≤ 2048) (v1 : Int32) : wpX_fresh (fun r u' => wpY_fresh (fun r' v' => r' = r ∧ i_Rel (k + 4) u' v') v v1) u v1 := by
  obtain ⟨m, hb, se⟩ := u
  obtain ⟨m', md⟩ := v
  obtain ⟨e, h0⟩ := I
  dsimp only at e h0
  subst e
  unfold wpX_fresh wpY_fresh
  dsimp only
  rcases zd_zone v1 with h | ⟨z, hz, rfl⟩
  · exact zx_iz (br_t h (zy_iz (br_t h ⟨rfl, rfl, h0⟩)))
  · refine zx_iz (br_f (zd_iz1 hz) (zx_mark hz h0 (fun B hB => ?_)))
    exact zy_iz (br_f (zd_iz1 hz) ⟨1000 + 1, zy_fresh14 hz (fun B' hB' => ⟨rfl, zd_rel h0 hB hB'⟩) 1000 0 m (by omega) (zd_Z0 h0)⟩)
theorem i_vc_copy {k : Nat} {u : SX} {v : SY} (I : i_Rel k u v) (hk : k + 4 ≤ 2048) (v1 : Int32) (v2 : Int32) : wpX_copy (fun r u' => wpY_copy (fun r' v' => r' = r ∧ i_Rel (k + 4) u' v') v v1 v2) u v1 v2 := by
  obtain ⟨m, hb, se⟩ := u
  obtain ⟨m', md⟩ := v
  obtain ⟨e, h0⟩ := I
  dsimp only at e h0
  subst e
  unfold wpX_copy wpY_copy
  dsimp only
  rcases zd_zone v1 with h | ⟨z, hz, rfl⟩
  · exact zx_iz (br_t h (zy_iz (br_t h ⟨rfl, rfl, h0⟩)))
  · have hz1 := zd_iz1 hz
    rcases zd_zone v2 with h | ⟨y, hy, rfl⟩
    · exact zx_iz (br_f hz1 (zx_iz (br_t h (zy_iz (br_f hz1 (zy_iz (br_t h ⟨rfl, rfl, h0⟩)))))))
    · have hy1 := zd_iz1 hy
      refine zx_iz (br_f hz1 (zx_iz (br_f hy1 ⟨1000 + 1, zx_copy20 hz hy h0 (fun B hB => ?_) 1000 0 m (by omega) (zd_Z0 h0)⟩)))
      exact zy_iz (br_f hz1 (zy_iz (br_f hy1 ⟨1000 + 1, zy_copy22 hz hy h0 (fun B' hB' => ⟨rfl, zd_rel h0 hB hB'⟩) 1000 0 m (by omega) (zd_Z0 h0)⟩)))
theorem i_vc_constrain {k : Nat} {u : SX} {v : SY} (I : i_Rel k u v) (hk : k + 4 ≤ 2048) (v1 : Int32) (v2 : Int32) (v3 : Int32) : wpX_constrain (fun r u' => wpY_constrain (fun r' v' => r' = r ∧ i_Rel (k + 4) u' v') v v1 v2 v3) u v1 v2 v3 := by
  obtain ⟨m, hb, se⟩ := u
  obtain ⟨m', md⟩ := v
  obtain ⟨e, h0⟩ := I
  dsimp only at e h0
  subst e
  unfold wpX_constrain wpY_constrain
  dsimp only
  rcases zd_zone v1 with h | ⟨z, hz, rfl⟩
  · exact zx_iz (br_t h (zy_iz (br_t h ⟨rfl, rfl, h0⟩)))
  · have hz1 := zd_iz1 hz
    rcases zd_pair v2 with h | ⟨r, hr, rfl, hr1⟩
    · exact zx_iz (br_f hz1 (zx_ip (br_t h (zy_iz (br_f hz1 (zy_ip (br_t h ⟨rfl, rfl, h0⟩)))))))
    · refine zx_iz (br_f hz1 (zx_ip (br_f hr1 (br_c (fun hc => ?_) (fun hc => br_c (fun hd => ?_) (fun hd => ?_))))))
      · exact zy_iz (br_f hz1 (zy_ip (br_f hr1 (br_t hc ⟨rfl, rfl, h0⟩))))
      · refine ⟨1000 + 1, zx_con33 hz hr (fun B hB => ?_) 1000 0 m (by omega) (zd_Z0 h0)⟩
        exact zy_iz (br_f hz1 (zy_ip (br_f hr1 (br_f hc (br_t hd ⟨1000 + 1, zy_con35 hz hr (fun B' hB' => ⟨zd_ans hB hB', zd_rel h0 hB hB'⟩) 1000 0 m (by omega) (zd_Z0 h0)⟩)))))
      · exact zy_iz (br_f hz1 (zy_ip (br_f hr1 (br_f hc (br_f hd ⟨rfl, rfl, h0⟩)))))
theorem i_vc_meet {k : Nat} {u : SX} {v : SY} (I : i_Rel k u v) (hk : k + 4 ≤ 2048) (v1 : Int32) (v2 : Int32) : wpX_meet (fun r u' => wpY_meet (fun r' v' => r' = r ∧ i_Rel (k + 4) u' v') v v1 v2) u v1 v2 := by
  obtain ⟨m, hb, se⟩ := u
  obtain ⟨m', md⟩ := v
  obtain ⟨e, h0⟩ := I
  dsimp only at e h0
  subst e
  unfold wpX_meet wpY_meet
  dsimp only
  rcases zd_zone v1 with h | ⟨z, hz, rfl⟩
  · exact zx_iz (br_t h (zy_iz (br_t h ⟨rfl, rfl, h0⟩)))
  · have hz1 := zd_iz1 hz
    rcases zd_zone v2 with h | ⟨y, hy, rfl⟩
    · exact zx_iz (br_f hz1 (zx_iz (br_t h (zy_iz (br_f hz1 (zy_iz (br_t h ⟨rfl, rfl, h0⟩)))))))
    · have hy1 := zd_iz1 hy
      refine zx_iz (br_f hz1 (zx_iz (br_f hy1 ⟨1000 + 1, zx_meet20 hz hy h0 (fun B hB => ?_) 1000 0 m (by omega) (zd_Z0 h0)⟩)))
      exact zy_iz (br_f hz1 (zy_iz (br_f hy1 ⟨1000 + 1, zy_meet22 hz hy h0 (fun B' hB' => ⟨zd_ans hB hB', zd_rel h0 hB hB'⟩) 1000 0 m (by omega) (zd_Z0 h0)⟩)))
theorem i_vc_hull {k : Nat} {u : SX} {v : SY} (I : i_Rel k u v) (hk : k + 4 ≤ 2048) (v1 : Int32) (v2 : Int32) : wpX_hull (fun r u' => wpY_hull (fun r' v' => r' = r ∧ i_Rel (k + 4) u' v') v v1 v2) u v1 v2 := by
  obtain ⟨m, hb, se⟩ := u
  obtain ⟨m', md⟩ := v
  obtain ⟨e, h0⟩ := I
  dsimp only at e h0
  subst e
  unfold wpX_hull wpY_hull
  dsimp only
  rcases zd_zone v1 with h | ⟨z, hz, rfl⟩
  · exact zx_iz (br_t h (zy_iz (br_t h ⟨rfl, rfl, h0⟩)))
  · have hz1 := zd_iz1 hz
    rcases zd_zone v2 with h | ⟨y, hy, rfl⟩
    · exact zx_iz (br_f hz1 (zx_iz (br_t h (zy_iz (br_f hz1 (zy_iz (br_t h ⟨rfl, rfl, h0⟩)))))))
    · have hy1 := zd_iz1 hy
      refine zx_iz (br_f hz1 (zx_iz (br_f hy1 ⟨16 + 1, zx_hull20 hz hy h0 (fun B hb' hB => ?_) 16 0 hb (by omega) (fun _ t => absurd t (by omega))⟩)))
      exact zy_iz (br_f hz1 (zy_iz (br_f hy1 (zy_so hz (zy_so hy (nm_e ⟨1000 + 1, zy_hull35 hz hy h0 zd_any (fun B' md' hB' => ⟨zd_ans hB hB', zd_rel h0 hB hB'⟩) 1000 0 md (by omega) zd_Mf0⟩))))))
theorem i_vc_delay {k : Nat} {u : SX} {v : SY} (I : i_Rel k u v) (hk : k + 4 ≤ 2048) (v1 : Int32) : wpX_delay (fun r u' => wpY_delay (fun r' v' => r' = r ∧ i_Rel (k + 4) u' v') v v1) u v1 := by
  obtain ⟨m, hb, se⟩ := u
  obtain ⟨m', md⟩ := v
  obtain ⟨e, h0⟩ := I
  dsimp only at e h0
  subst e
  unfold wpX_delay wpY_delay
  dsimp only
  rcases zd_zone v1 with h | ⟨z, hz, rfl⟩
  · exact zx_iz (br_t h (zy_iz (br_t h ⟨rfl, rfl, h0⟩)))
  · have hz1 := zd_iz1 hz
    refine zx_iz (br_f hz1 ⟨1000 + 1, zx_delay13 hz (fun B hB => ?_) 1000 0 m (by omega) (zd_Zif (zd_Zrf h0) (fun q _ => zd_dX0 (f := fun p => ¬ m (1000 * z + p) = 0)))⟩)
    exact zy_iz (br_f hz1 (zy_move true rfl hz h0 (fun B' md' hB' => ⟨zd_ans hB hB', zd_rel h0 hB hB'⟩)))
theorem i_vc_past {k : Nat} {u : SX} {v : SY} (I : i_Rel k u v) (hk : k + 4 ≤ 2048) (v1 : Int32) : wpX_past (fun r u' => wpY_past (fun r' v' => r' = r ∧ i_Rel (k + 4) u' v') v v1) u v1 := by
  obtain ⟨m, hb, se⟩ := u
  obtain ⟨m', md⟩ := v
  obtain ⟨e, h0⟩ := I
  dsimp only at e h0
  subst e
  unfold wpX_past wpY_past
  dsimp only
  rcases zd_zone v1 with h | ⟨z, hz, rfl⟩
  · exact zx_iz (br_t h (zy_iz (br_t h ⟨rfl, rfl, h0⟩)))
  · have hz1 := zd_iz1 hz
    refine zx_iz (br_f hz1 ⟨888 + 2, zx_past15 (f := fun p => ¬ m (1000 * z + p) = 0) hz (fun B hB => ?_) 888 m (by omega) (zd_Zif (zd_Zrf h0) (fun q hq => zd_pX0 (f := fun p => ¬ m (1000 * z + p) = 0) hq))⟩)
    exact zy_iz (br_f hz1 (zy_move false rfl hz h0 (fun B' md' hB' => ⟨zd_ans hB hB', zd_rel h0 hB hB'⟩)))
