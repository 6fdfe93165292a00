/-! ===== small methods of both sides, each with a general post ===== -/
theorem ml_32 : (32 : Int32) ≤ nI 32 := by decide +kernel
theorem ml_l32 {i : Nat} (h : i < 32) : ¬ (32 : Int32) ≤ nI i := nI_ge (b := 32) h (by decide)
theorem ml_10 : ¬ (1 : Int32) = 0 := by decide
theorem ml_60 : ¬ (6 : Int32) = 0 := by decide
theorem ml_in4 {x : Int32} (h : vp_in x 4) : ¬ x < 0 ∧ ¬ 4 ≤ x ∧ ¬ 3 < x := by
  rw [vp_in_iff] at h
  have h0 : (0 : Int32).toInt = 0 := by decide
  have h3 : (3 : Int32).toInt = 3 := by decide
  have h4 : (4 : Int32).toInt = 4 := by decide
  rw [Int32.lt_iff_toInt_lt, Int32.le_iff_toInt_le, Int32.lt_iff_toInt_lt]
  omega
theorem ml_out4 {x : Int32} (h : ¬ vp_in x 4) : x < 0 ∨ (¬ x < 0 ∧ 4 ≤ x ∧ 3 < x) := by
  rw [vp_in_iff] at h
  have h0 : (0 : Int32).toInt = 0 := by decide
  have h3 : (3 : Int32).toInt = 3 := by decide
  have h4 : (4 : Int32).toInt = 4 := by decide
  rw [Int32.lt_iff_toInt_lt, Int32.le_iff_toInt_le, Int32.lt_iff_toInt_lt]
  omega
theorem ml_in32 {x : Int32} (h : vp_in x 32) : ¬ x < 0 ∧ ¬ 32 ≤ x ∧ ¬ 31 < x := by
  rw [vp_in_iff] at h
  have h0 : (0 : Int32).toInt = 0 := by decide
  have h3 : (31 : Int32).toInt = 31 := by decide
  have h4 : (32 : Int32).toInt = 32 := by decide
  rw [Int32.lt_iff_toInt_lt, Int32.le_iff_toInt_le, Int32.lt_iff_toInt_lt]
  omega
theorem ml_out32 {x : Int32} (h : ¬ vp_in x 32) : x < 0 ∨ (¬ x < 0 ∧ 32 ≤ x ∧ 31 < x) := by
  rw [vp_in_iff] at h
  have h0 : (0 : Int32).toInt = 0 := by decide
  have h3 : (31 : Int32).toInt = 31 := by decide
  have h4 : (32 : Int32).toInt = 32 := by decide
  rw [Int32.lt_iff_toInt_lt, Int32.le_iff_toInt_le, Int32.lt_iff_toInt_lt]
  omega
theorem ml_p4 {p : Int32} (hp : vp_in p 4) : p.toNatClampNeg < 4 := by
  obtain ⟨t, ht, rfl⟩ := vp_in_of hp (by decide)
  rw [nI_clamp (by omega)]
  exact ht
/-! cells: the view's (4 times 32), X's states (8 times 32), Y's (6 times 32) -/
theorem ml_vx {p : Int32} (hp : vp_in p 4) {k : Nat} (hk : k < 32) : (p * 32 + nI k).toNatClampNeg = 32 * p.toNatClampNeg + k ∧ vp_in (p * 32 + nI k) 128 := by
  obtain ⟨t, ht, rfl⟩ := vp_in_of hp (by decide)
  have e : nI t * 32 + nI k = nI (32 * t + k) := by
    show nI t * nI 32 + nI k = _
    rw [pk_mul, nI_add, Nat.mul_comm]
  rw [e, nI_clamp (by omega), nI_clamp (by omega)]
  exact ⟨rfl, vp_in_nI (by omega) (by decide)⟩
theorem ml_vy {p : Int32} (hp : vp_in p 4) {k : Nat} (hk : k < 32) : (32 * p + nI k).toNatClampNeg = 32 * p.toNatClampNeg + k ∧ vp_in (32 * p + nI k) 128 := by
  rw [Int32.mul_comm]
  exact ml_vx hp hk
theorem ml_sx {s : Nat} (hs : s < 8) {k : Nat} (hk : k < 32) : (nI s * 32 + nI k).toNatClampNeg = s * 32 + k ∧ vp_in (nI s * 32 + nI k) 256 := by
  have e : nI s * 32 + nI k = nI (s * 32 + k) := by
    show nI s * nI 32 + nI k = _
    rw [pk_mul, nI_add]
  rw [e, nI_clamp (by omega)]
  exact ⟨rfl, vp_in_nI (by omega) (by decide)⟩
theorem ml_sy {s : Nat} (hs : s < 6) {k : Nat} (hk : k < 32) : (32 * nI s + nI k).toNatClampNeg = 32 * s + k ∧ vp_in (32 * nI s + nI k) 192 := by
  have e : 32 * nI s + nI k = nI (32 * s + k) := by
    show nI 32 * nI s + nI k = _
    rw [pk_mul, nI_add]
  rw [e, nI_clamp (by omega)]
  exact ⟨rfl, vp_in_nI (by omega) (by decide)⟩
section
variable {post : Int32 → Prop} {N : Int32} {sk sv sc lc op bs vk vv ow rk th va tc se si : Nat → Int32} {p q x : Int32}
theorem xm_tr_t (hp : vp_in p 4) (h : post 1) : wpX_isTransaction post p := br_f (ml_in4 hp).1 (br_f (ml_in4 hp).2.1 h)
theorem xm_tr_f (hp : ¬ vp_in p 4) (h : post 0) : wpX_isTransaction post p := by
  rcases ml_out4 hp with z | z
  · exact br_t z h
  · exact br_f z.1 (br_t z.2.1 h)
theorem ym_tr_t (hp : vp_in p 4) (h : post 1) : wpY_isTransaction post (N, th, va, tc, op, se, vv, ow, rk, si) p := br_f (ml_in4 hp).1 (br_f (ml_in4 hp).2.2 h)
theorem ym_tr_f (hp : ¬ vp_in p 4) (h : post 0) : wpY_isTransaction post (N, th, va, tc, op, se, vv, ow, rk, si) p := by
  rcases ml_out4 hp with z | z
  · exact br_t z h
  · exact br_f z.1 (br_t z.2.2 h)
theorem xm_ky_t (hp : vp_in p 32) (h : post 1) : wpX_isKey post p := br_f (ml_in32 hp).1 (br_f (ml_in32 hp).2.1 h)
theorem xm_ky_f (hp : ¬ vp_in p 32) (h : post 0) : wpX_isKey post p := by
  rcases ml_out32 hp with z | z
  · exact br_t z h
  · exact br_f z.1 (br_t z.2.1 h)
theorem ym_ky_t (hp : vp_in p 32) (h : post 1) : wpY_isKey post (N, th, va, tc, op, se, vv, ow, rk, si) p := br_f (ml_in32 hp).1 (br_f (ml_in32 hp).2.2 h)
theorem ym_ky_f (hp : ¬ vp_in p 32) (h : post 0) : wpY_isKey post (N, th, va, tc, op, se, vv, ow, rk, si) p := by
  rcases ml_out32 hp with z | z
  · exact br_t z h
  · exact br_f z.1 (br_t z.2.2 h)
theorem xm_slot {n : Nat} (hn : n < 2 ^ 31) (h : post (nI (n % 8))) : wpX_slotOf post (nI n) := by
  unfold wpX_slotOf
  rw [ml_and7 n hn]
  exact h
theorem xm_hold {k : Nat} (hk : k < 32) (h : post (ml_b (bt x k))) : wpX_holds post x (nI k) := by
  unfold wpX_holds
  rw [ml_bit x k hk]
  cases hb : bt x k
  · rw [hb] at h
    exact br_t rfl h
  · rw [hb] at h
    exact br_f (by decide) h
theorem ym_in {k : Nat} (hk : k < 32) (h : post (ml_b (bt x k))) : wpY_in post (N, th, va, tc, op, se, vv, ow, rk, si) x (nI k) := by
  unfold wpY_in
  dsimp only
  rw [ml_bit x k hk]
  cases hb : bt x k
  · rw [hb] at h
    exact br_f (by decide) h
  · rw [hb] at h
    exact br_t rfl h
theorem ml_add (c : Nat) (b : Bool) : nI c + ml_b b = nI (c + (if b then 1 else 0)) := by
  cases b
  · exact Int32.add_zero _
  · exact nI_1 c
theorem xm_ckL : ∀ d i, i + d = 32 → post (nI (ml_pc x)) → wX_countKeys_4 post x (d + 1) (nI (ml_cnt (bt x) i)) (nI i) := by
  intro d
  induction d with
  | zero =>
    intro i hi h
    obtain rfl : i = 32 := by omega
    exact br_t ml_32 h
  | succ d ih =>
    intro i hi h
    have hl : i < 32 := by omega
    exact br_f (ml_l32 hl) (nm_r (e' := nI (ml_cnt (bt x) (i + 1))) (by rw [ml_bit x i hl]; exact ml_add _ _) (nm_r (nI_1 i) (ih (i + 1) (by omega) h)))
theorem xm_ck (h : post (nI (ml_pc x))) : wpX_countKeys post x := ⟨33, xm_ckL 32 0 rfl h⟩
theorem ym_ckL : ∀ d i, i + d = 32 → post (nI (ml_pc x)) → wY_sizeOf_4 post x N th va tc op se vv ow rk si (d + 1) (nI (ml_cnt (bt x) i)) (nI i) := by
  intro d
  induction d with
  | zero =>
    intro i hi h
    obtain rfl : i = 32 := by omega
    exact br_t ml_32 h
  | succ d ih =>
    intro i hi h
    have hl : i < 32 := by omega
    refine br_f (ml_l32 hl) (ym_in hl ?_)
    have g := ih (i + 1) (by omega) h
    have e : ml_cnt (bt x) (i + 1) = ml_cnt (bt x) i + (if bt x i then 1 else 0) := rfl
    cases hb : bt x i
    · rw [e, hb] at g
      exact br_t rfl (nm_r (nI_1 i) g)
    · rw [e, hb] at g
      exact br_f (by decide) (nm_r (nI_1 _) (nm_r (nI_1 i) g))
theorem ym_ck (h : post (nI (ml_pc x))) : wpY_sizeOf post (N, th, va, tc, op, se, vv, ow, rk, si) x := ⟨33, ym_ckL 32 0 rfl h⟩
theorem xm_rt_b (hp : ¬ vp_in p 4) (h : post (-1)) : wpX_refuseTransaction post (N, sk, sv, sc, lc, op, bs, vk, vv, ow, rk) p := by
  unfold wpX_refuseTransaction
  exact xm_tr_f hp (br_t rfl h)
theorem xm_rt_c (hp : vp_in p 4) (ho : op p.toNatClampNeg = 0) (h : post (-3)) : wpX_refuseTransaction post (N, sk, sv, sc, lc, op, bs, vk, vv, ow, rk) p := by
  unfold wpX_refuseTransaction
  exact xm_tr_t hp (br_f ml_10 ⟨hp, br_t ho h⟩)
theorem xm_rt_o (hp : vp_in p 4) (ho : ¬ op p.toNatClampNeg = 0) (h : post 0) : wpX_refuseTransaction post (N, sk, sv, sc, lc, op, bs, vk, vv, ow, rk) p := by
  unfold wpX_refuseTransaction
  exact xm_tr_t hp (br_f ml_10 ⟨hp, br_f ho h⟩)
theorem xm_rk_k (hq : ¬ vp_in q 32) (h : post (-1)) : wpX_refuseKey post (N, sk, sv, sc, lc, op, bs, vk, vv, ow, rk) p q := by
  unfold wpX_refuseKey
  exact xm_ky_f hq (br_t rfl h)
theorem xm_rk_b (hp : ¬ vp_in p 4) (h : post (-1)) : wpX_refuseKey post (N, sk, sv, sc, lc, op, bs, vk, vv, ow, rk) p q := by
  by_cases hq : vp_in q 32
  · unfold wpX_refuseKey
    exact xm_ky_t hq (br_f ml_10 (xm_rt_b hp h))
  · exact xm_rk_k hq h
theorem xm_rk_c (hq : vp_in q 32) (hp : vp_in p 4) (ho : op p.toNatClampNeg = 0) (h : post (-3)) : wpX_refuseKey post (N, sk, sv, sc, lc, op, bs, vk, vv, ow, rk) p q := by
  unfold wpX_refuseKey
  exact xm_ky_t hq (br_f ml_10 (xm_rt_c hp ho h))
theorem xm_rk_o (hq : vp_in q 32) (hp : vp_in p 4) (ho : ¬ op p.toNatClampNeg = 0) (h : post 0) : wpX_refuseKey post (N, sk, sv, sc, lc, op, bs, vk, vv, ow, rk) p q := by
  unfold wpX_refuseKey
  exact xm_ky_t hq (br_f ml_10 (xm_rt_o hp ho h))
end
