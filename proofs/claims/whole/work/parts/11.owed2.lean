/-! what is owed, the rest -/
theorem zd_coord {x : Int32} (h1 : ¬ x < 1) (h3 : ¬ 3 < x) : ∃ i, 1 ≤ i ∧ i ≤ 3 ∧ x = nI i := by
  obtain ⟨i, hi, rfl⟩ := nI_of2 (x := x) (M := 3) (n := 3) (by decide) (fun h => h1 (Int32.lt_trans h (by decide))) (Int32.not_lt.mp h3)
  refine ⟨i, ?_, hi, rfl⟩
  by_cases h : i = 0
  · subst h
    exact absurd (by decide) h1
  · omega
theorem i_vc_reset {k : Nat} {u : SX} {v : SY} (I : i_Rel k u v) (hk : k + 4 ≤ 2048) (v1 : Int32) (v2 : Int32) (v3 : Int32) : wpX_reset (fun r u' => wpY_reset (fun r' v' => r' = r ∧ i_Rel (k + 4) u' v') v v1 v2 v3) u v1 v2 v3 := by
  obtain ⟨m, hb, se⟩ := u
  obtain ⟨m', md⟩ := v
  obtain ⟨e, h0⟩ := I
  dsimp only at e h0
  subst e
  unfold wpX_reset wpY_reset
  dsimp only
  rcases zd_zone v1 with h | ⟨z, hz, rfl⟩
  · exact zx_iz (br_t h (zy_iz (br_t h ⟨rfl, rfl, h0⟩)))
  · have hz1 := zd_iz1 hz
    refine zx_iz (br_f hz1 (br_c (fun h1 => br_t rfl ?_) (fun h1 => br_c (fun h3 => br_t rfl ?_) (fun h3 => br_f (by decide) (br_c (fun hc => ?_) (fun hc => br_c (fun hd => ?_) (fun hd => ?_)))))))
    · exact zy_iz (br_f hz1 (br_t h1 ⟨rfl, rfl, h0⟩))
    · exact zy_iz (br_f hz1 (br_f h1 (br_t h3 ⟨rfl, rfl, h0⟩)))
    · exact zy_iz (br_f hz1 (br_f h1 (br_f h3 (br_t hc ⟨rfl, rfl, h0⟩))))
    · obtain ⟨i, ha, hb3, rfl⟩ := zd_coord h1 h3
      obtain ⟨c, hc9, rfl⟩ := nI_of2 (x := v3) (M := 9) (n := 9) (by decide) hc hd
      have hc10 : c < 10 := by omega
      refine zx_w ha hb3 ⟨1000 + 1, zx_reset37 (f := fun p => ¬ m (1000 * z + p) = 0) hz ha hb3 hc10 (fun B hB => ?_) 1000 0 m (by omega) (zd_Zif (zd_Zrf h0) (fun q _ => zd_rX0 (f := fun p => ¬ m (1000 * z + p) = 0)))⟩
      refine zy_iz (br_f hz1 (br_f h1 (br_f h3 (br_f hc (br_t hd (zy_clear (fun md' hM => ⟨1000 + 1, zy_reset39 hz ha hb3 hc10 h0 (fun B' md'' hB' => ⟨zd_ans hB hB', zd_rel h0 hB hB'⟩) 1000 0 md' (by omega) (zd_Mif hM (fun q _ => ⟨False.elim, fun ⟨_, t, _⟩ => absurd t (by omega)⟩))⟩)))))))
    · exact zy_iz (br_f hz1 (br_f h1 (br_f h3 (br_f hc (br_f hd ⟨rfl, rfl, h0⟩)))))
theorem i_vc_forget {k : Nat} {u : SX} {v : SY} (I : i_Rel k u v) (hk : k + 4 ≤ 2048) (v1 : Int32) (v2 : Int32) : wpX_forget (fun r u' => wpY_forget (fun r' v' => r' = r ∧ i_Rel (k + 4) u' v') v v1 v2) u v1 v2 := by
  obtain ⟨m, hb, se⟩ := u
  obtain ⟨m', md⟩ := v
  obtain ⟨e, h0⟩ := I
  dsimp only at e h0
  subst e
  unfold wpX_forget wpY_forget
  dsimp only
  rcases zd_zone v1 with h | ⟨z, hz, rfl⟩
  · exact zx_iz (br_t h (zy_iz (br_t h ⟨rfl, rfl, h0⟩)))
  · have hz1 := zd_iz1 hz
    refine zx_iz (br_f hz1 (br_c (fun h1 => br_t rfl ?_) (fun h1 => br_c (fun h3 => br_t rfl ?_) (fun h3 => br_f (by decide) ?_))))
    · exact zy_iz (br_f hz1 (br_t h1 ⟨rfl, rfl, h0⟩))
    · exact zy_iz (br_f hz1 (br_f h1 (br_f (Int32.not_le.mpr h3) ⟨rfl, rfl, h0⟩)))
    · have h3' := Int32.not_lt.mp h3
      obtain ⟨i, ha, hb3, rfl⟩ := zd_coord h1 h3
      refine zx_w ha hb3 ⟨1000 + 1, zx_forget26 (f := fun p => ¬ m (1000 * z + p) = 0) hz ha hb3 (fun B hB => ?_) 1000 0 m (by omega) (zd_Zif (zd_Zrf h0) (fun q _ => zd_fX0 (f := fun p => ¬ m (1000 * z + p) = 0)))⟩
      refine zy_iz (br_f hz1 (br_f h1 (br_t h3' (zy_clear (fun md' hM => ⟨1000 + 1, zy_forget28 hz ha hb3 h0 (fun B' md'' hB' => ⟨zd_ans hB hB', zd_rel h0 hB hB'⟩) 1000 0 md' (by omega) (zd_Mif hM (fun q _ => ⟨False.elim, ?_⟩))⟩)))))
      rintro (⟨_, t, _⟩ | ⟨_, t, _⟩)
      · omega
      · omega
theorem i_vc_empty {k : Nat} {u : SX} {v : SY} (I : i_Rel k u v) (hk : k + 4 ≤ 2048) (v1 : Int32) : wpX_empty (fun r => wpY_empty (fun r' => r' = r ∧ i_Rel (k + 4) u v) v v1) u v1 := by
  obtain ⟨m, hb, se⟩ := u
  obtain ⟨m', md⟩ := v
  have I4 : i_Rel (k + 4) (m, hb, se) (m', md) := I
  obtain ⟨e, h0⟩ := I
  dsimp only at e h0
  subst e
  unfold wpX_empty wpY_empty
  dsimp only
  rcases zd_zone v1 with h | ⟨z, hz, rfl⟩
  · exact zx_iz (br_t h (zy_iz (br_t h ⟨rfl, I4⟩)))
  · have hz1 := zd_iz1 hz
    refine zx_iz (br_f hz1 (zx_lo hz (br_c (fun e => ?_) (fun e => ?_))))
    · exact zy_iz (br_f hz1 (zy_so hz (br_t (if_pos e) ⟨rfl, I4⟩)))
    · exact zy_iz (br_f hz1 (zy_so hz (br_f (by unfold zd_so; rw [if_neg e]; decide) ⟨rfl, I4⟩)))
theorem i_vc_has {k : Nat} {u : SX} {v : SY} (I : i_Rel k u v) (hk : k + 4 ≤ 2048) (v1 : Int32) (v2 : Int32) : wpX_has (fun r => wpY_has (fun r' => r' = r ∧ i_Rel (k + 4) u v) v v1 v2) u v1 v2 := by
  obtain ⟨m, hb, se⟩ := u
  obtain ⟨m', md⟩ := v
  have I4 : i_Rel (k + 4) (m, hb, se) (m', md) := I
  obtain ⟨e, h0⟩ := I
  dsimp only at e h0
  subst e
  unfold wpX_has wpY_has
  dsimp only
  rcases zd_zone v1 with h | ⟨z, hz, rfl⟩
  · exact zx_iz (br_t h (zy_iz (br_t h ⟨rfl, I4⟩)))
  · have hz1 := zd_iz1 hz
    refine zx_iz (br_f hz1 (br_c (fun h1 => ?_) (fun h1 => br_c (fun h2 => ?_) (fun h2 => ?_))))
    · exact zy_iz (br_f hz1 (br_t h1 ⟨rfl, I4⟩))
    · exact zy_iz (br_f hz1 (br_f h1 (br_t ((zd_g999 v2).mpr h2) ⟨rfl, I4⟩)))
    · have h2' : ¬ 999 < v2 := fun t => h2 ((zd_g999 v2).mp t)
      obtain ⟨p, hp, rfl⟩ : ∃ p, p < 1000 ∧ v2 = nI p := by
        rcases pk_ix v2 (n := 1000) (by omega) with t | t | t
        · exact absurd t h1
        · exact absurd t h2
        · exact t
      refine ⟨zd_inX hz hp, br_c (fun hm => ?_) (fun hm => ?_)⟩
      · rw [zd_clX hz hp] at hm
        exact zy_iz (br_f hz1 (br_f h1 (br_f h2' ⟨zd_inY hz hp, br_t (zd_t (zd_clY hz hp) hm) ⟨rfl, I4⟩⟩)))
      · rw [zd_clX hz hp] at hm
        exact zy_iz (br_f hz1 (br_f h1 (br_f h2' ⟨zd_inY hz hp, br_f (zd_f (zd_clY hz hp) hm) ⟨rfl, I4⟩⟩)))
theorem i_vc_bound {k : Nat} {u : SX} {v : SY} (I : i_Rel k u v) (hk : k + 4 ≤ 2048) (v1 : Int32) (v2 : Int32) : wpX_bound (fun r => wpY_bound (fun r' => r' = r ∧ i_Rel (k + 4) u v) v v1 v2) u v1 v2 := by
  obtain ⟨m, hb, se⟩ := u
  obtain ⟨m', md⟩ := v
  have I4 : i_Rel (k + 4) (m, hb, se) (m', md) := I
  obtain ⟨e, h0⟩ := I
  dsimp only at e h0
  subst e
  unfold wpX_bound wpY_bound
  dsimp only
  rcases zd_zone v1 with h | ⟨z, hz, rfl⟩
  · exact zx_iz (br_t h (zy_iz (br_t h ⟨rfl, I4⟩)))
  · have hz1 := zd_iz1 hz
    rcases zd_pair v2 with h | ⟨r, hr, rfl, hr1⟩
    · exact zx_iz (br_f hz1 (zx_ip (br_t h (zy_iz (br_f hz1 (zy_ip (br_t h ⟨rfl, I4⟩)))))))
    · exact zx_iz (br_f hz1 (zx_ip (br_f hr1 (zx_gr hz hr (zy_iz (br_f hz1 (zy_ip (br_f hr1 (zy_gr hz hr ⟨rfl, I4⟩)))))))))
theorem i_vc_count {k : Nat} {u : SX} {v : SY} (I : i_Rel k u v) (hk : k + 4 ≤ 2048) (v1 : Int32) : wpX_count (fun r => wpY_count (fun r' => r' = r ∧ i_Rel (k + 4) u v) v v1) u v1 := by
  obtain ⟨m, hb, se⟩ := u
  obtain ⟨m', md⟩ := v
  have I4 : i_Rel (k + 4) (m, hb, se) (m', md) := I
  obtain ⟨e, h0⟩ := I
  dsimp only at e h0
  subst e
  unfold wpX_count wpY_count
  dsimp only
  rcases zd_zone v1 with h | ⟨z, hz, rfl⟩
  · exact zx_iz (br_t h (zy_iz (br_t h ⟨rfl, I4⟩)))
  · have hz1 := zd_iz1 hz
    refine zx_iz (br_f hz1 ⟨1000 + 1, zx_count15 hz ?_ 1000 0 (by omega)⟩)
    refine zy_iz (br_f hz1 ⟨1000 + 1, zy_count16 hz ?_ 1000 0 (by omega)⟩)
    exact ⟨rfl, I4⟩
theorem i_vc_within {k : Nat} {u : SX} {v : SY} (I : i_Rel k u v) (hk : k + 4 ≤ 2048) (v1 : Int32) (v2 : Int32) : wpX_within (fun r => wpY_within (fun r' => r' = r ∧ i_Rel (k + 4) u v) v v1 v2) u v1 v2 := by
  obtain ⟨m, hb, se⟩ := u
  obtain ⟨m', md⟩ := v
  have I4 : i_Rel (k + 4) (m, hb, se) (m', md) := I
  obtain ⟨e, h0⟩ := I
  dsimp only at e h0
  subst e
  unfold wpX_within wpY_within
  dsimp only
  rcases zd_zone v1 with h | ⟨z, hz, rfl⟩
  · exact zx_iz (br_t h (zy_iz (br_t h ⟨rfl, I4⟩)))
  · have hz1 := zd_iz1 hz
    rcases zd_zone v2 with h | ⟨y, hy, rfl⟩
    · exact zx_iz (br_f hz1 (zx_iz (br_t h (zy_iz (br_f hz1 (zy_iz (br_t h ⟨rfl, I4⟩)))))))
    · have hy1 := zd_iz1 hy
      exact zx_iz (br_f hz1 (zx_iz (br_f hy1 ⟨1000 + 1, zx_within18 hz hy (fun x hx => zy_iz (br_f hz1 (zy_iz (br_f hy1 ⟨1000 + 1, zy_within20 hz hy (fun x' hx' => ⟨zd_ceq hx' hx, I4⟩) 1000 0 (by omega) (fun _ t => absurd t (by omega))⟩)))) 1000 0 (by omega) (fun _ t => absurd t (by omega))⟩)))
theorem i_vc_touches {k : Nat} {u : SX} {v : SY} (I : i_Rel k u v) (hk : k + 4 ≤ 2048) (v1 : Int32) (v2 : Int32) : wpX_touches (fun r => wpY_touches (fun r' => r' = r ∧ i_Rel (k + 4) u v) v v1 v2) u v1 v2 := by
  obtain ⟨m, hb, se⟩ := u
  obtain ⟨m', md⟩ := v
  have I4 : i_Rel (k + 4) (m, hb, se) (m', md) := I
  obtain ⟨e, h0⟩ := I
  dsimp only at e h0
  subst e
  unfold wpX_touches wpY_touches
  dsimp only
  rcases zd_zone v1 with h | ⟨z, hz, rfl⟩
  · exact zx_iz (br_t h (zy_iz (br_t h ⟨rfl, I4⟩)))
  · have hz1 := zd_iz1 hz
    rcases zd_zone v2 with h | ⟨y, hy, rfl⟩
    · exact zx_iz (br_f hz1 (zx_iz (br_t h (zy_iz (br_f hz1 (zy_iz (br_t h ⟨rfl, I4⟩)))))))
    · have hy1 := zd_iz1 hy
      refine zx_iz (br_f hz1 (zx_iz (br_f hy1 (zx_tw (d := 0) hz hy (by omega) (fun x hx => br_c (fun hx0 => ?_) (fun hx0 => ?_))))))
      · exact zy_iz (br_f hz1 (zy_iz (br_f hy1 (zy_ms (d := 0) hz hy (by omega) (fun x' hx' => br_t ((zd_ceq hx' hx).trans hx0) ⟨rfl, I4⟩)))))
      · exact zy_iz (br_f hz1 (zy_iz (br_f hy1 (zy_ms (d := 0) hz hy (by omega) (fun x' hx' => br_f (fun t => hx0 ((zd_ceq hx hx').trans t)) ⟨rfl, I4⟩)))))
theorem i_vc_least {k : Nat} {u : SX} {v : SY} (I : i_Rel k u v) (hk : k + 4 ≤ 2048) (v1 : Int32) : wpX_least (fun r => wpY_least (fun r' => r' = r ∧ i_Rel (k + 4) u v) v v1) u v1 := by
  obtain ⟨m, hb, se⟩ := u
  obtain ⟨m', md⟩ := v
  have I4 : i_Rel (k + 4) (m, hb, se) (m', md) := I
  obtain ⟨e, h0⟩ := I
  dsimp only at e h0
  subst e
  unfold wpX_least wpY_least
  dsimp only
  rcases zd_zone v1 with h | ⟨z, hz, rfl⟩
  · exact zx_iz (br_t h (zy_iz (br_t h ⟨rfl, I4⟩)))
  · have hz1 := zd_iz1 hz
    exact zx_iz (br_f hz1 (zx_lo hz (zy_iz (br_f hz1 ⟨1000 + 1, zy_least14 hz 1000 0 (by omega) ⟨rfl, I4⟩⟩))))
theorem i_vc_spread {k : Nat} {u : SX} {v : SY} (I : i_Rel k u v) (hk : k + 4 ≤ 2048) (v1 : Int32) (v2 : Int32) : wpX_spread (fun r u' => wpY_spread (fun r' => r' = r ∧ i_Rel (k + 4) u' v) v v1 v2) u v1 v2 := by
  obtain ⟨m, hb, se⟩ := u
  obtain ⟨m', md⟩ := v
  obtain ⟨e, h0⟩ := I
  dsimp only at e h0
  subst e
  unfold wpX_spread wpY_spread
  dsimp only
  rcases zd_zone v1 with h | ⟨z, hz, rfl⟩
  · exact zx_iz (br_t h (zy_iz (br_t h ⟨rfl, rfl, h0⟩)))
  · have hz1 := zd_iz1 hz
    rcases zd_pair v2 with h | ⟨r, hr, rfl, hr1⟩
    · exact zx_iz (br_f hz1 (zx_ip (br_t h (zy_iz (br_f hz1 (zy_ip (br_t h ⟨rfl, rfl, h0⟩)))))))
    · refine zx_iz (br_f hz1 (zx_ip (br_f hr1 ⟨19 + 1, zx_spread20 hz hr (fun se' hS => ?_) 19 0 se (by omega) (fun _ t => absurd t (by omega))⟩)))
      refine zy_iz (br_f hz1 (zy_ip (br_f hr1 ⟨1000 + 1, zy_spread25 hz hr (fun s hs => ⟨congrArg nI (zd_cs_if 19 (fun d hd => ?_)), rfl, h0⟩) 1000 0 0 (by omega) (fun d _ => ⟨fun t => absurd (b_0 d) (by rw [t]; decide), fun t => absurd t zd_S_0⟩)⟩)))
      rw [zd_c0 (hS d hd), ← hs d hd]
      unfold zd_bm
      by_cases hb1 : bt s d = true
      · rw [if_pos hb1]
        exact ⟨fun t => absurd t (by decide), fun t => absurd hb1 t⟩
      · rw [if_neg hb1]
        exact ⟨fun _ => hb1, fun _ => rfl⟩
theorem i_vc_meeting {k : Nat} {u : SX} {v : SY} (I : i_Rel k u v) (hk : k + 4 ≤ 2048) (v1 : Int32) (v2 : Int32) : wpX_meeting (fun r => wpY_meeting (fun r' => r' = r ∧ i_Rel (k + 4) u v) v v1 v2) u v1 v2 := by
  obtain ⟨m, hb, se⟩ := u
  obtain ⟨m', md⟩ := v
  have I4 : i_Rel (k + 4) (m, hb, se) (m', md) := I
  obtain ⟨e, h0⟩ := I
  dsimp only at e h0
  subst e
  unfold wpX_meeting wpY_meeting
  dsimp only
  rcases zd_zone v1 with h | ⟨z, hz, rfl⟩
  · exact zx_iz (br_t h (zy_iz (br_t h ⟨rfl, I4⟩)))
  · have hz1 := zd_iz1 hz
    rcases zd_zone v2 with h | ⟨y, hy, rfl⟩
    · exact zx_iz (br_f hz1 (zx_iz (br_t h (zy_iz (br_f hz1 (zy_iz (br_t h ⟨rfl, I4⟩)))))))
    · have hy1 := zd_iz1 hy
      exact zx_iz (br_f hz1 (zx_iz (br_f hy1 ⟨10 + 1, zx_meeting20 hz hy 10 0 (by omega) (zy_iz (br_f hz1 (zy_iz (br_f hy1 ⟨10 + 1, zy_meeting22 hz hy 10 0 (by omega) ⟨rfl, I4⟩⟩))))⟩)))
