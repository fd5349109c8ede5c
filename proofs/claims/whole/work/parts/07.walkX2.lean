/-! the component's further loops -/
/-- zone z, moved by d, meets zone y -/
def zd_T (m : Nat → Int32) (z y d : Nat) : Prop := ∃ p, p < 1000 ∧ ¬ m (1000 * z + p) = 0 ∧ zd_ri d p ∧ ¬ m (1000 * y + (p + 111 * d)) = 0
/-- the first d from d on that has T, n of them looked at; -2000 if none -/
noncomputable def zd_me (T : Nat → Prop) : Nat → Nat → Int32
  | 0, _ => -2000
  | n + 1, d => @ite Int32 (T d) (Classical.propDecidable (T d)) (nI d) (zd_me T n (d + 1))
section walkX2
variable {m hb se : Nat → Int32} {z y : Nat}
theorem zx_reset37 {post : Int32 → SX → Prop} {f : Nat → Prop} {i c : Nat} (hz : z < 4) (ha : 1 ≤ i) (hb3 : i ≤ 3) (hc : c < 10) (K : ∀ B, zd_Z m z (zd_R f i c) B → post (zd_so B z 1000 0) (B, hb, se)) : ∀ d k A, k + d = 1000 → zd_Z m z (zd_rX i c k f) A → wX_reset_37 post (nI z) (nI i) (nI c) (nI (zd_w i)) (d + 1) (nI k) A hb se := by
  intro d
  induction d with
  | zero =>
    intro k A hk h
    obtain rfl : k = 1000 := by omega
    exact br_t zd_e1000 (zx_one hz (K A (zd_Zif h (fun _ hq => zd_rXe ha hb3 hc hq))))
  | succ d ih =>
    intro k A hk h
    have hp : k < 1000 := by omega
    have hcl := zd_clX hz hp
    have h9 := zd_co9 (i := i) hp
    have e2 : nI z * 1000 + nI k + (nI c - nI (zd_co i k)) * nI (zd_w i) = nI (1000 * z + zd_wi k i c) := by
      rw [zd_xX]
      exact zd_wiI ha hb3
    have hl := zd_wi_lt ha hb3 hp hc
    refine br_f (zd_m1000 hp) (zx_co (by omega) hp (pk_eq (zd_co i k) c (fun e => nm_r (nI_1 k) (ih (k + 1) A (by omega) (zd_rXk h (Or.inl e)))) (fun e => ⟨zd_inX hz hp, ?_⟩) rfl rfl (by omega) (by omega)))
    by_cases hm : A (1000 * z + k) = 0
    · exact br_t (zd_t hcl hm) (nm_r (nI_1 k) (ih (k + 1) A (by omega) (zd_rXk h (Or.inr (fun t => (zd_rXr h hp e).mpr t hm)))))
    · exact br_f (zd_f hcl hm) ⟨zd_inX hz hp, nm_r (zd_ea hcl zd_b0) ⟨by rw [e2]; exact zd_in hz hl, nm_r (zd_ea (by rw [e2]; exact zd_cl hz hl) zd_b1) (nm_r (nI_1 k) (ih (k + 1) _ (by omega) (zd_rXw ha hb3 hc hp h e ((zd_rXr h hp e).mp hm))))⟩⟩
theorem zx_fl54 {post : SX → Prop} {f : Nat → Prop} {i k : Nat} {v : Int32} (hz : z < 4) (ha : 1 ≤ i) (hb3 : i ≤ 3) (hk : k < 1000) (h0 : zd_co i k = 0) (hv : zd_c v (zd_F f i k)) (K : ∀ B, zd_Z m z (zd_fX i (k + 1) f) B → post (B, hb, se)) : ∀ d x A, x + d = 10 → zd_Z m z (zd_fL i k x f) A → wX_fillLine_54 post (nI z) (nI k) (nI (zd_w i)) v (d + 1) (nI x) A hb se := by
  intro d
  induction d with
  | zero =>
    intro x A hx h
    obtain rfl : x = 10 := by omega
    exact br_t (nI_le (a := 10) (b := 10) (by omega) (by decide)) (K A (zd_Zif h (fun _ hq => zd_fLe hq)))
  | succ d ih =>
    intro x A hx h
    have hx9 : x < 10 := by omega
    have hl := zd_wi_lt ha hb3 hk hx9
    have e3 : nI z * 1000 + nI k + nI x * nI (zd_w i) = nI (1000 * z + zd_wi k i x) := by
      rw [zd_xX, pk_mul, nI_add, zd_wi_0 h0, Nat.add_assoc]
    exact br_f (nI_ge (b := 10) hx9 (by decide)) ⟨by rw [e3]; exact zd_in hz hl, nm_r (zd_ea (by rw [e3]; exact zd_cl hz hl) (zd_nar (zd_c01 hv))) (nm_r (nI_1 x) (ih (x + 1) _ (by omega) (zd_fLw ha hb3 hk h0 hx9 h hv)))⟩
theorem zx_fl6 {post : SX → Prop} {f : Nat → Prop} {A : Nat → Int32} {i k : Nat} (hz : z < 4) (ha : 1 ≤ i) (hb3 : i ≤ 3) (hk : k < 1000) (h0 : zd_co i k = 0) (h : zd_Z m z (zd_fX i k f) A) (K : ∀ B, zd_Z m z (zd_fX i (k + 1) f) B → post (B, hb, se)) : ∀ d x v, x + d = 10 → zd_c v (∃ w, w < x ∧ f (zd_wi k i w)) → wX_fillLine_6 post (nI z) (nI k) (nI (zd_w i)) A hb se (d + 1) v (nI x) := by
  intro d
  induction d with
  | zero =>
    intro x v hx hv
    obtain rfl : x = 10 := by omega
    exact br_t (nI_le (a := 10) (b := 10) (by omega) (by decide)) ⟨10 + 1, zx_fl54 hz ha hb3 hk h0 (zd_cif hv (zd_Feq ha hb3 hk).symm) K 10 0 A (by omega) (zd_Zif h (fun _ _ => zd_fL0))⟩
  | succ d ih =>
    intro x v hx hv
    have hx9 : x < 10 := by omega
    have hl := zd_wi_lt ha hb3 hk hx9
    have e3 : nI z * 1000 + nI k + nI x * nI (zd_w i) = nI (1000 * z + zd_wi k i x) := by
      rw [zd_xX, pk_mul, nI_add, zd_wi_0 h0, Nat.add_assoc]
    have hc : (nI z * 1000 + nI k + nI x * nI (zd_w i)).toNatClampNeg = 1000 * z + zd_wi k i x := by rw [e3]; exact zd_cl hz hl
    have hrd := zd_fXr ha hb3 hk h0 hx9 h
    refine br_f (nI_ge (b := 10) hx9 (by decide)) (br_c (fun v0 => ⟨by rw [e3]; exact zd_in hz hl, ?_⟩) (fun v1 => nm_r (nI_1 x) (ih (x + 1) 1 (by omega) (zd_ct ?_))))
    · have nv := (zd_c0 hv).mp v0
      by_cases hm : A (1000 * z + zd_wi k i x) = 0
      · refine br_t (zd_t hc hm) (nm_r (nI_1 x) (ih (x + 1) 0 (by omega) (zd_cf ?_)))
        rintro ⟨w, hw, t⟩
        by_cases hwx : w = x
        · subst hwx
          exact hrd.mpr t hm
        · exact nv ⟨w, by omega, t⟩
      · exact br_f (zd_f hc hm) (nm_r (nI_1 x) (ih (x + 1) 1 (by omega) (zd_ct ⟨x, by omega, hrd.mp hm⟩)))
    · obtain ⟨w, hw, t⟩ := (zd_cn0 hv).mp v1
      exact ⟨w, by omega, t⟩
theorem zx_fill {post : SX → Prop} {f : Nat → Prop} {A : Nat → Int32} {i k : Nat} (hz : z < 4) (ha : 1 ≤ i) (hb3 : i ≤ 3) (hk : k < 1000) (h0 : zd_co i k = 0) (h : zd_Z m z (zd_fX i k f) A) (K : ∀ B, zd_Z m z (zd_fX i (k + 1) f) B → post (B, hb, se)) : wpX_fillLine post (A, hb, se) (nI z) (nI k) (nI (zd_w i)) :=
  ⟨10 + 1, zx_fl6 hz ha hb3 hk h0 h K 10 0 0 (by omega) (zd_cf (fun ⟨_, hw, _⟩ => by omega))⟩
theorem zx_forget26 {post : Int32 → SX → Prop} {f : Nat → Prop} {i : Nat} (hz : z < 4) (ha : 1 ≤ i) (hb3 : i ≤ 3) (K : ∀ B, zd_Z m z (zd_F f i) B → post (zd_so B z 1000 0) (B, hb, se)) : ∀ d k A, k + d = 1000 → zd_Z m z (zd_fX i k f) A → wX_forget_26 post (nI z) (nI i) (nI (zd_w i)) (d + 1) (nI k) A hb se := by
  intro d
  induction d with
  | zero =>
    intro k A hk h
    obtain rfl : k = 1000 := by omega
    exact br_t zd_e1000 (zx_one hz (K A (zd_Zif h (fun _ hq => zd_fXe ha hb3 hq))))
  | succ d ih =>
    intro k A hk h
    have hp : k < 1000 := by omega
    have h9 := zd_co9 (i := i) hp
    exact br_f (zd_m1000 hp) (zx_co (by omega) hp (pk_eq (zd_co i k) 0 (fun e => zx_fill hz ha hb3 hp e h (fun B hB => nm_r (nI_1 k) (ih (k + 1) B (by omega) hB))) (fun e => nm_r (nI_1 k) (ih (k + 1) A (by omega) (zd_fXk ha hb3 h e))) rfl rfl (by omega) (by omega)))
theorem zx_count15 {post : Int32 → Prop} (hz : z < 4) (h : post (nI (zd_cn m z 1000))) : ∀ d i, i + d = 1000 → wX_count_15 post (nI z) m hb se (d + 1) (nI (zd_cn m z i)) (nI i) := by
  intro d
  induction d with
  | zero =>
    intro i hi
    obtain rfl : i = 1000 := by omega
    exact br_t zd_e1000 h
  | succ d ih =>
    intro i hi
    have hp : i < 1000 := by omega
    have hc := zd_clX hz hp
    have g := ih (i + 1) (by omega)
    unfold zd_cn at g
    refine br_f (zd_m1000 hp) ⟨zd_inX hz hp, ?_⟩
    by_cases hm : m (1000 * z + i) = 0
    · rw [if_pos hm] at g
      exact br_t (zd_t hc hm) (nm_r (nI_1 i) g)
    · rw [if_neg hm] at g
      exact br_f (zd_f hc hm) (nm_r (nI_1 (zd_cn m z i)) (nm_r (nI_1 i) g))
theorem zx_within18 {post : Int32 → Prop} (hz : z < 4) (hy : y < 4) (K : ∀ x, zd_c x (∀ p, p < 1000 → ¬ m (1000 * z + p) = 0 → ¬ m (1000 * y + p) = 0) → post x) : ∀ d i, i + d = 1000 → (∀ p, p < i → ¬ m (1000 * z + p) = 0 → ¬ m (1000 * y + p) = 0) → wX_within_18 post (nI z) (nI y) m hb se (d + 1) (nI i) := by
  intro d
  induction d with
  | zero =>
    intro i hi h
    obtain rfl : i = 1000 := by omega
    exact br_t zd_e1000 (K 1 (zd_ct h))
  | succ d ih =>
    intro i hi h
    have hp : i < 1000 := by omega
    have hc := zd_clX hz hp
    have hcy := zd_clX hy hp
    refine br_f (zd_m1000 hp) ⟨zd_inX hz hp, ?_⟩
    by_cases hm : m (1000 * z + i) = 0
    · exact br_t (zd_t hc hm) (nm_r (nI_1 i) (ih (i + 1) (by omega) (lt_s h (fun t => absurd hm t))))
    · refine br_f (zd_f hc hm) ⟨zd_inX hy hp, ?_⟩
      by_cases hn : m (1000 * y + i) = 0
      · exact br_t (zd_t hcy hn) (K 0 (zd_cf (fun t => t i hp hm hn)))
      · exact br_f (zd_f hcy hn) (nm_r (nI_1 i) (ih (i + 1) (by omega) (lt_s h (fun _ => hn))))
theorem zx_tw3 {post : Int32 → Prop} {d : Nat} (hz : z < 4) (hy : y < 4) (hd : d ≤ 9) (K : ∀ x, zd_c x (zd_T m z y d) → post x) : ∀ n i, i + n = 1000 → (∀ p, p < i → ¬ (¬ m (1000 * z + p) = 0 ∧ zd_ri d p ∧ ¬ m (1000 * y + (p + 111 * d)) = 0)) → wX_touchesWhenMoved_3 post (nI z) (nI y) (nI d) m hb se (n + 1) (nI i) := by
  intro n
  induction n with
  | zero =>
    intro i hi h
    obtain rfl : i = 1000 := by omega
    exact br_t zd_e1000 (K 0 (zd_cf (fun ⟨p, hp, t⟩ => h p hp t)))
  | succ n ih =>
    intro i hi h
    have hp : i < 1000 := by omega
    have hc := zd_clX hz hp
    refine br_f (zd_m1000 hp) ⟨zd_inX hz hp, ?_⟩
    by_cases hm : m (1000 * z + i) = 0
    · exact br_t (zd_t hc hm) (nm_r (nI_1 i) (ih (i + 1) (by omega) (lt_s h (fun t => t.1 hm))))
    · refine br_f (zd_f hc hm) (zx_ri hp hd (fun x hx => br_c (fun hx0 => nm_r (nI_1 i) (ih (i + 1) (by omega) (lt_s h (fun t => (zd_c0 hx).mp hx0 t.2.1)))) (fun hx0 => ?_)))
      have hri := (zd_cn0 hx).mp hx0
      have hl : i + 111 * d < 1000 := zd_ri_lt hri
      have e : nI y * 1000 + nI i + nI d * 111 = nI (1000 * y + (i + 111 * d)) := by
        rw [zd_xX, show nI d * 111 = nI (d * 111) from pk_mul d 111, nI_add]
        exact congrArg nI (by omega)
      have hcy : (nI y * 1000 + nI i + nI d * 111).toNatClampNeg = 1000 * y + (i + 111 * d) := by rw [e]; exact zd_cl hy hl
      refine ⟨by rw [e]; exact zd_in hy hl, ?_⟩
      by_cases hn : m (1000 * y + (i + 111 * d)) = 0
      · exact br_t (zd_t hcy hn) (nm_r (nI_1 i) (ih (i + 1) (by omega) (lt_s h (fun t => t.2.2 hn))))
      · exact br_f (zd_f hcy hn) (K 1 (zd_ct ⟨i, hp, hm, hri, hn⟩))
theorem zx_tw {post : Int32 → Prop} {d : Nat} (hz : z < 4) (hy : y < 4) (hd : d ≤ 9) (K : ∀ x, zd_c x (zd_T m z y d) → post x) : wpX_touchesWhenMoved post (m, hb, se) (nI z) (nI y) (nI d) := ⟨1000 + 1, zx_tw3 hz hy hd K 1000 0 (by omega) (fun _ h => absurd h (by omega))⟩
theorem zx_meeting20 {post : Int32 → Prop} (hz : z < 4) (hy : y < 4) : ∀ n d, d + n = 10 → post (zd_me (zd_T m z y) n d) → wX_meeting_20 post (nI z) (nI y) m hb se (n + 1) (nI d) := by
  intro n
  induction n with
  | zero =>
    intro d hd h
    obtain rfl : d = 10 := by omega
    exact br_t (nI_lt (a := 9) (b := 10) (by omega) (by decide)) h
  | succ n ih =>
    intro d hd h
    unfold zd_me at h
    refine br_f (nI_nlt (a := 9) (b := d) (by omega) (by decide)) (zx_tw hz hy (by omega) (fun x hx => br_c (fun hx0 => ?_) (fun hx0 => ?_)))
    · rw [if_neg ((zd_c0 hx).mp hx0)] at h
      exact nm_r (nI_1 d) (ih (d + 1) (by omega) h)
    · rw [if_pos ((zd_cn0 hx).mp hx0)] at h
      exact h
theorem zx_spread44 {post : Int32 → SX → Prop} {r : Nat} (hz : z < 4) (hr : r < 16) (K : ∀ se' : Nat → Int32, (∀ d, d < 19 → zd_c (se' d) (zd_S m z r 1000 d)) → post (nI (zd_cs se' 19)) (m, hb, se')) : ∀ n i (se : Nat → Int32), i + n = 1000 → (∀ d, d < 19 → zd_c (se d) (zd_S m z r i d)) → wX_spread_44 post (nI z) (nI r) (n + 1) (nI (zd_cs se 19)) (nI i) m hb se := by
  intro n
  induction n with
  | zero =>
    intro i se hi h
    obtain rfl : i = 1000 := by omega
    exact br_t zd_e1000 (K se h)
  | succ n ih =>
    intro i se hi h
    have hp : i < 1000 := by omega
    have hc := zd_clX hz hp
    have hl := zd_d9_lt (r := r) hp
    have hcd : (nI (zd_d9 r i)).toNatClampNeg = zd_d9 r i := nI_clamp (by omega)
    refine br_f (zd_m1000 hp) (zx_di hr hp (nm_r (zd_d9I hp) ⟨zd_inX hz hp, ?_⟩))
    by_cases hm : m (1000 * z + i) = 0
    · refine br_t (zd_t hc hm) (nm_r (nI_1 i) (ih (i + 1) se (by omega) (fun d hd => zd_cif (h d hd) ?_)))
      rw [zd_S_s]
      exact ⟨Or.inl, fun t => t.elim id (fun t => absurd hm t.1)⟩
    · refine br_f (zd_f hc hm) ⟨vp_in_nI hl (by decide), ?_⟩
      by_cases hs : se (zd_d9 r i) = 0
      · have g := ih (i + 1) (upd se (zd_d9 r i) 1) (by omega) (fun d hd => by
          by_cases hdd : d = zd_d9 r i
          · rw [hdd, pk_us]
            exact zd_ct (zd_S_s.mpr (Or.inr ⟨hm, rfl⟩))
          · rw [pk_un hdd]
            refine zd_cif (h d hd) ?_
            rw [zd_S_s]
            exact ⟨Or.inl, fun t => t.elim id (fun t => absurd t.2.symm hdd)⟩)
        rw [zd_cs_up hs, if_pos hl] at g
        exact br_t (zd_t hcd hs) ⟨vp_in_nI hl (by decide), nm_r (zd_ea hcd zd_b1) (nm_r (nI_1 (zd_cs se 19)) (nm_r (nI_1 i) g))⟩
      · refine br_f (zd_f hcd hs) (nm_r (nI_1 i) (ih (i + 1) se (by omega) (fun d hd => zd_cif (h d hd) ?_)))
        rw [zd_S_s]
        refine ⟨Or.inl, fun t => t.elim id (fun t => ?_)⟩
        rw [← t.2]
        exact (zd_cn0 (h _ hl)).mp hs
theorem zx_spread20 {post : Int32 → SX → Prop} {r : Nat} (hz : z < 4) (hr : r < 16) (K : ∀ se' : Nat → Int32, (∀ d, d < 19 → zd_c (se' d) (zd_S m z r 1000 d)) → post (nI (zd_cs se' 19)) (m, hb, se')) : ∀ n i (se : Nat → Int32), i + n = 19 → (∀ d, d < i → se d = 0) → wX_spread_20 post (nI z) (nI r) (n + 1) (nI i) m hb se := by
  intro n
  induction n with
  | zero =>
    intro i se hi h
    obtain rfl : i = 19 := by omega
    have g := zx_spread44 hz hr K 1000 0 se (by omega) (fun d hd => by rw [h d hd]; exact zd_cf zd_S_0)
    rw [zd_cs_0 19 h] at g
    exact br_t (nI_le (a := 19) (b := 19) (by omega) (by decide)) ⟨1000 + 1, g⟩
  | succ n ih =>
    intro i se hi h
    have hi9 : i < 19 := by omega
    refine br_f (nI_ge (b := 19) hi9 (by decide)) ⟨vp_in_nI hi9 (by decide), nm_r (zd_ea (nI_clamp (by omega)) zd_b0) (nm_r (nI_1 i) (ih (i + 1) (upd se i 0) (by omega) (fun d hd => ?_)))⟩
    by_cases hdi : d = i
    · rw [hdi, pk_us]
    · rw [pk_un hdi]
      exact h d (by omega)
end walkX2
