/-! ===== Y: begin, write, erase, read, peek, countRange, abort ===== -/
section
variable {N : Int32} {op vv ow rk th va tc se si : Nat → Int32} {p q x y : Int32}
theorem ml_ry {n : Nat} (hn : n < 2 ^ 31) {k : Nat} (hk : k < 32) : (32 * (nI n - nI n / 6 * 6) + nI k).toNatClampNeg = 32 * (n % 6) + k ∧ vp_in (32 * (nI n - nI n / 6 * 6) + nI k) 192 := by
  rw [ml_rem6 n hn]
  exact ml_sy (Nat.mod_lt _ (by decide)) hk
theorem ml_r6 {n : Nat} (hn : n < 2 ^ 31) : (nI n - nI n / 6 * 6).toNatClampNeg = n % 6 ∧ vp_in (nI n - nI n / 6 * 6) 6 := by
  have h6 : n % 6 < 6 := Nat.mod_lt _ (by decide)
  rw [ml_rem6 n hn, nI_clamp (by omega)]
  exact ⟨rfl, vp_in_nI h6 (by decide)⟩
theorem ym_bgL {post : Int32 → SY → Prop} (hp : vp_in p 4) {n : Nat} (hn : n < 2 ^ 31) (hb : ∀ k, k < 32 → vp_nar .boolean (th (32 * (n % 6) + k)) = th (32 * (n % 6) + k)) (h : post (nI n) (nI n, th, va, tc, op, ml_cp se (32 * p.toNatClampNeg) (fun k => th (32 * (n % 6) + k)) 32, ml_cp vv (32 * p.toNatClampNeg) (fun k => va (32 * (n % 6) + k)) 32, ow, rk, si)) : ∀ d i, i + d = 32 → wY_begin_52 post p (nI n) (d + 1) (nI i) th va tc op (ml_cp se (32 * p.toNatClampNeg) (fun k => th (32 * (n % 6) + k)) i) (ml_cp vv (32 * p.toNatClampNeg) (fun k => va (32 * (n % 6) + k)) i) ow rk si := by
  intro d
  induction d with
  | zero =>
    intro i hi
    obtain rfl : i = 32 := by omega
    exact br_t ml_32 h
  | succ d ih =>
    intro i hi
    have hl : i < 32 := by omega
    refine br_f (ml_l32 hl) ⟨ml_60, (ml_ry hn hl).2, (ml_vy hp hl).2, nm_r (e' := ml_cp se (32 * p.toNatClampNeg) (fun k => th (32 * (n % 6) + k)) (i + 1)) ?_ ⟨ml_60, (ml_ry hn hl).2, (ml_vy hp hl).2, nm_r (e' := ml_cp vv (32 * p.toNatClampNeg) (fun k => va (32 * (n % 6) + k)) (i + 1)) ?_ (nm_r (nI_1 i) (ih (i + 1) (by omega)))⟩⟩
    · rw [(ml_ry hn hl).1, (ml_vy hp hl).1, hb i hl]
      exact ml_cpS _ _ (fun k => th (32 * (n % 6) + k)) _
    · rw [(ml_ry hn hl).1, (ml_vy hp hl).1]
      exact ml_cpS _ _ (fun k => va (32 * (n % 6) + k)) _
theorem ym_begin_b {post : Int32 → SY → Prop} (hp : ¬ vp_in p 4) (h : post (-1) (N, th, va, tc, op, se, vv, ow, rk, si)) : wpY_begin post (N, th, va, tc, op, se, vv, ow, rk, si) p := by
  unfold wpY_begin
  exact ym_tr_f hp (br_t rfl h)
theorem ym_begin_o {post : Int32 → SY → Prop} (hp : vp_in p 4) (ho : ¬ op p.toNatClampNeg = 0) (h : post (-2) (N, th, va, tc, op, se, vv, ow, rk, si)) : wpY_begin post (N, th, va, tc, op, se, vv, ow, rk, si) p := by
  unfold wpY_begin
  exact ym_tr_t hp (br_f ml_10 ⟨hp, br_f ho h⟩)
theorem ym_begin {post : Int32 → SY → Prop} {n : Nat} (hn : n < 2 ^ 31) (hp : vp_in p 4) (ho : op p.toNatClampNeg = 0) (hb : ∀ k, k < 32 → vp_nar .boolean (th (32 * (n % 6) + k)) = th (32 * (n % 6) + k)) (h : post (nI n) (nI n, th, va, tc, upd op p.toNatClampNeg (vp_nar .boolean 1), ml_cp se (32 * p.toNatClampNeg) (fun k => th (32 * (n % 6) + k)) 32, ml_cp vv (32 * p.toNatClampNeg) (fun k => va (32 * (n % 6) + k)) 32, upd ow p.toNatClampNeg 0, upd rk p.toNatClampNeg 0, upd si p.toNatClampNeg 0)) : wpY_begin post (nI n, th, va, tc, op, se, vv, ow, rk, si) p := by
  unfold wpY_begin
  refine ym_tr_t hp (br_f ml_10 ⟨hp, br_t ho ⟨hp, nm_e ⟨hp, nm_e ⟨hp, nm_e ⟨hp, nm_e ⟨33, ?_⟩⟩⟩⟩⟩⟩)
  have g := ym_bgL (post := post) (se := se) (vv := vv) hp hn hb h 32 0 rfl
  rw [ml_cp0, ml_cp0] at g
  exact g
/-! give -/
theorem ym_g66 {post : Int32 → SY → Prop} {k : Nat} (hk : k < 32) (hp : vp_in p 4) (b : Bool) (h : post (nI (ml_pc (ow p.toNatClampNeg ||| ((1 : Int32) <<< (nI k &&& 31))))) (N, th, va, tc, op, upd se (32 * p.toNatClampNeg + k) (ml_b b), upd vv (32 * p.toNatClampNeg + k) y, upd ow p.toNatClampNeg (ow p.toNatClampNeg ||| ((1 : Int32) <<< (nI k &&& 31))), rk, si)) : wY_give_66 post p (nI k) (ml_b b) y N th va tc op se vv ow rk si := by
  unfold wY_give_66
  refine ⟨hp, hp, nm_e ⟨(ml_vy hp hk).2, nm_r (e' := upd se (32 * p.toNatClampNeg + k) (ml_b b)) (by rw [(ml_vy hp hk).1, ml_bz]) ⟨(ml_vy hp hk).2, nm_r (e' := upd vv (32 * p.toNatClampNeg + k) y) (by rw [(ml_vy hp hk).1]) ⟨hp, ym_ck ?_⟩⟩⟩⟩
  rw [pk_us]
  exact h
theorem ym_gi_b {post : Int32 → SY → Prop} (hs : ¬ (vp_in p 4 ∧ vp_in q 32)) (h : post (-1) (N, th, va, tc, op, se, vv, ow, rk, si)) : wpY_give post (N, th, va, tc, op, se, vv, ow, rk, si) p q x y := by
  unfold wpY_give
  by_cases hp : vp_in p 4
  · exact ym_tr_t hp (br_f ml_10 (ym_ky_f (fun z => hs ⟨hp, z⟩) (br_t rfl h)))
  · exact ym_tr_f hp (br_t rfl h)
theorem ym_gi_c {post : Int32 → SY → Prop} (hp : vp_in p 4) (hq : vp_in q 32) (ho : op p.toNatClampNeg = 0) (h : post (-3) (N, th, va, tc, op, se, vv, ow, rk, si)) : wpY_give post (N, th, va, tc, op, se, vv, ow, rk, si) p q x y := by
  unfold wpY_give
  exact ym_tr_t hp (br_f ml_10 (ym_ky_t hq (br_f ml_10 ⟨hp, br_t ho h⟩)))
theorem ym_gi_f {post : Int32 → SY → Prop} {k : Nat} (hk : k < 32) (hp : vp_in p 4) (ho : ¬ op p.toNatClampNeg = 0) (hb : bt (ow p.toNatClampNeg) k = false) (hc : ml_pc (ow p.toNatClampNeg) = 6) (h : post (-4) (N, th, va, tc, op, se, vv, ow, rk, si)) : wpY_give post (N, th, va, tc, op, se, vv, ow, rk, si) p (nI k) x y := by
  unfold wpY_give
  refine ym_tr_t hp (br_f ml_10 (ym_ky_t (vp_in_nI hk (by decide)) (br_f ml_10 ⟨hp, br_f ho ⟨hp, ym_ck ⟨hp, ym_in hk ?_⟩⟩⟩)))
  rw [hb, hc]
  exact br_t rfl (br_t rfl h)
theorem ym_gi_o {post : Int32 → SY → Prop} {k : Nat} (hk : k < 32) (hp : vp_in p 4) (ho : ¬ op p.toNatClampNeg = 0) (hb : bt (ow p.toNatClampNeg) k = true ∨ ml_pc (ow p.toNatClampNeg) < 6) (b : Bool) (h : post (nI (ml_pc (ow p.toNatClampNeg ||| ((1 : Int32) <<< (nI k &&& 31))))) (N, th, va, tc, op, upd se (32 * p.toNatClampNeg + k) (ml_b b), upd vv (32 * p.toNatClampNeg + k) y, upd ow p.toNatClampNeg (ow p.toNatClampNeg ||| ((1 : Int32) <<< (nI k &&& 31))), rk, si)) : wpY_give post (N, th, va, tc, op, se, vv, ow, rk, si) p (nI k) (ml_b b) y := by
  unfold wpY_give
  refine ym_tr_t hp (br_f ml_10 (ym_ky_t (vp_in_nI hk (by decide)) (br_f ml_10 ⟨hp, br_f ho ⟨hp, ym_ck ⟨hp, ym_in hk ?_⟩⟩⟩)))
  cases hc : bt (ow p.toNatClampNeg) k
  · refine br_t rfl (br_f ?_ (ym_g66 hk hp b h))
    rcases hb with z | z
    · rw [hc] at z
      exact absurd z (by decide)
    · intro e
      have e' : nI (ml_pc (ow p.toNatClampNeg)) = nI 6 := e
      rw [nI_eq (by omega) (by decide)] at e'
      omega
  · exact br_f (by decide) (ym_g66 hk hp b h)
/-! read, peek -/
theorem ym_rd_b {post : Int32 → SY → Prop} (hs : ¬ (vp_in p 4 ∧ vp_in q 32)) (h : post (-1) (N, th, va, tc, op, se, vv, ow, rk, si)) : wpY_read post (N, th, va, tc, op, se, vv, ow, rk, si) p q := by
  unfold wpY_read
  by_cases hp : vp_in p 4
  · exact ym_tr_t hp (br_f ml_10 (ym_ky_f (fun z => hs ⟨hp, z⟩) (br_t rfl h)))
  · exact ym_tr_f hp (br_t rfl h)
theorem ym_rd_c {post : Int32 → SY → Prop} (hp : vp_in p 4) (hq : vp_in q 32) (ho : op p.toNatClampNeg = 0) (h : post (-3) (N, th, va, tc, op, se, vv, ow, rk, si)) : wpY_read post (N, th, va, tc, op, se, vv, ow, rk, si) p q := by
  unfold wpY_read
  exact ym_tr_t hp (br_f ml_10 (ym_ky_t hq (br_f ml_10 ⟨hp, br_t ho h⟩)))
theorem ym_rd_o {post : Int32 → SY → Prop} {k : Nat} (hk : k < 32) (hp : vp_in p 4) (ho : ¬ op p.toNatClampNeg = 0) {b : Bool} (hb : se (32 * p.toNatClampNeg + k) = ml_b b) (h : post (ml_b b) (N, th, va, tc, op, se, vv, ow, upd rk p.toNatClampNeg (rk p.toNatClampNeg ||| ((1 : Int32) <<< (nI k &&& 31))), si)) : wpY_read post (N, th, va, tc, op, se, vv, ow, rk, si) p (nI k) := by
  unfold wpY_read
  refine ym_tr_t hp (br_f ml_10 (ym_ky_t (vp_in_nI hk (by decide)) (br_f ml_10 ⟨hp, br_f ho ⟨hp, hp, nm_e ⟨(ml_vy hp hk).2, ?_⟩⟩⟩)))
  rw [(ml_vy hp hk).1, hb]
  cases b
  · exact br_t rfl h
  · exact br_f (by decide) h
theorem ym_pe_b {post : Int32 → Prop} (hs : ¬ (vp_in p 4 ∧ vp_in q 32)) (h : post 0) : wpY_peek post (N, th, va, tc, op, se, vv, ow, rk, si) p q := by
  unfold wpY_peek
  by_cases hp : vp_in p 4
  · exact ym_tr_t hp (br_f ml_10 (ym_ky_f (fun z => hs ⟨hp, z⟩) (br_t rfl h)))
  · exact ym_tr_f hp (br_t rfl h)
theorem ym_pe_c {post : Int32 → Prop} (hp : vp_in p 4) (hq : vp_in q 32) (ho : op p.toNatClampNeg = 0) (h : post 0) : wpY_peek post (N, th, va, tc, op, se, vv, ow, rk, si) p q := by
  unfold wpY_peek
  exact ym_tr_t hp (br_f ml_10 (ym_ky_t hq (br_f ml_10 ⟨hp, br_t ho h⟩)))
theorem ym_pe_o {post : Int32 → Prop} {k : Nat} (hk : k < 32) (hp : vp_in p 4) (ho : ¬ op p.toNatClampNeg = 0) {b : Bool} (hb : se (32 * p.toNatClampNeg + k) = ml_b b) (hz : b = false → vv (32 * p.toNatClampNeg + k) = 0) (h : post (vv (32 * p.toNatClampNeg + k))) : wpY_peek post (N, th, va, tc, op, se, vv, ow, rk, si) p (nI k) := by
  unfold wpY_peek
  refine ym_tr_t hp (br_f ml_10 (ym_ky_t (vp_in_nI hk (by decide)) (br_f ml_10 ⟨hp, br_f ho ⟨(ml_vy hp hk).2, ?_⟩⟩)))
  rw [(ml_vy hp hk).1, hb]
  cases b
  · rw [hz rfl] at h
    exact br_t rfl h
  · exact br_f (by decide) ⟨(ml_vy hp hk).2, h⟩
/-! countRange -/
theorem ym_crL {post : Int32 → SY → Prop} {lo hi : Nat} (hh : hi < 32) (hp : vp_in p 4) (ho : ¬ op p.toNatClampNeg = 0) {V : Int32} (hse : ∀ k, k < 32 → se (32 * p.toNatClampNeg + k) = ml_b (bt V k)) : ∀ d i (rk' : Nat → Int32), lo + i + d = hi + 1 → rk' = upd rk p.toNatClampNeg (rk p.toNatClampNeg ||| ml_rg lo i) → post (nI (ml_pc (V &&& ml_rg lo (i + d)))) (N, th, va, tc, op, se, vv, ow, upd rk p.toNatClampNeg (rk p.toNatClampNeg ||| ml_rg lo (i + d)), si) → wY_countRange_49 post p (nI hi) (d + 1) (nI (ml_pc (V &&& ml_rg lo i))) (nI (lo + i)) N th va tc op se vv ow rk' si := by
  intro d
  induction d with
  | zero =>
    intro i rk' hi' hr h
    subst hr
    exact br_t (nI_lt (by omega) (by omega)) h
  | succ d ih =>
    intro i rk' hi' hr h
    have hk : lo + i < 32 := by omega
    refine br_f (nI_nlt (by omega) (by omega)) (ym_rd_o hk hp ho (hse _ hk) ?_)
    refine nm_r (e' := nI (ml_pc (V &&& ml_rg lo (i + 1)))) ?_ (nm_r (nI_1 (lo + i)) (ih (i + 1) _ (by omega) ?_ ?_))
    · rw [ml_add, ml_rg_pc V lo i hk]
    · rw [hr, ml_uu, pk_us, Int32.or_assoc]
      rfl
    · rw [show i + 1 + d = i + (d + 1) by omega]
      exact h
theorem ym_cr_b {post : Int32 → SY → Prop} (hs : ¬ (vp_in p 4 ∧ vp_in x 32 ∧ vp_in y 32 ∧ x ≤ y)) (h : post (-1) (N, th, va, tc, op, se, vv, ow, rk, si)) : wpY_countRange post (N, th, va, tc, op, se, vv, ow, rk, si) p x y := by
  unfold wpY_countRange
  by_cases hp : vp_in p 4
  · by_cases hx : vp_in x 32
    · by_cases hy : vp_in y 32
      · exact ym_tr_t hp (br_f ml_10 (ym_ky_t hx (br_f ml_10 (ym_ky_t hy (br_f ml_10 (br_f (fun z => hs ⟨hp, hx, hy, z⟩) h))))))
      · exact ym_tr_t hp (br_f ml_10 (ym_ky_t hx (br_f ml_10 (ym_ky_f hy (br_t rfl h)))))
    · exact ym_tr_t hp (br_f ml_10 (ym_ky_f hx (br_t rfl h)))
  · exact ym_tr_f hp (br_t rfl h)
theorem ym_cr_c {post : Int32 → SY → Prop} (hs : vp_in p 4 ∧ vp_in x 32 ∧ vp_in y 32 ∧ x ≤ y) (ho : op p.toNatClampNeg = 0) (h : post (-3) (N, th, va, tc, op, se, vv, ow, rk, si)) : wpY_countRange post (N, th, va, tc, op, se, vv, ow, rk, si) p x y := by
  unfold wpY_countRange
  exact ym_tr_t hs.1 (br_f ml_10 (ym_ky_t hs.2.1 (br_f ml_10 (ym_ky_t hs.2.2.1 (br_f ml_10 (br_t hs.2.2.2 ⟨hs.1, br_t ho h⟩))))))
theorem ym_cr_o {post : Int32 → SY → Prop} {lo hi : Nat} (hh : hi < 32) (hl : lo ≤ hi) (hp : vp_in p 4) (ho : ¬ op p.toNatClampNeg = 0) {V : Int32} (hse : ∀ k, k < 32 → se (32 * p.toNatClampNeg + k) = ml_b (bt V k)) (h : post (nI (ml_pc (V &&& ml_rg lo (hi + 1 - lo)))) (N, th, va, tc, op, se, vv, ow, upd rk p.toNatClampNeg (rk p.toNatClampNeg ||| ml_rg lo (hi + 1 - lo)), si)) : wpY_countRange post (N, th, va, tc, op, se, vv, ow, rk, si) p (nI lo) (nI hi) := by
  unfold wpY_countRange
  refine ym_tr_t hp (br_f ml_10 (ym_ky_t (vp_in_nI (by omega) (by decide)) (br_f ml_10 (ym_ky_t (vp_in_nI hh (by decide)) (br_f ml_10 (br_t (nI_le hl (by omega)) ⟨hp, br_f ho ⟨hi + 1 - lo + 1, ?_⟩⟩))))))
  have g := ym_crL (post := post) (N := N) (th := th) (va := va) (tc := tc) (vv := vv) (ow := ow) (si := si) (rk := rk) (lo := lo) hh hp ho hse (hi + 1 - lo) 0 rk (by omega) (by
    show rk = upd rk p.toNatClampNeg (rk p.toNatClampNeg ||| 0)
    rw [Int32.or_zero, ml_us]) (by rw [Nat.zero_add]; exact h)
  have e : ml_pc (V &&& ml_rg lo 0) = 0 := by
    show ml_pc (V &&& 0) = 0
    rw [Int32.and_zero, ml_pc_0]
  rw [e] at g
  exact g
/-! abort -/
theorem ym_ab_b {post : Int32 → SY → Prop} (hp : ¬ vp_in p 4) (h : post (-1) (N, th, va, tc, op, se, vv, ow, rk, si)) : wpY_abort post (N, th, va, tc, op, se, vv, ow, rk, si) p := by
  unfold wpY_abort
  exact ym_tr_f hp (br_t rfl h)
theorem ym_ab_c {post : Int32 → SY → Prop} (hp : vp_in p 4) (ho : op p.toNatClampNeg = 0) (h : post (-3) (N, th, va, tc, op, se, vv, ow, rk, si)) : wpY_abort post (N, th, va, tc, op, se, vv, ow, rk, si) p := by
  unfold wpY_abort
  exact ym_tr_t hp (br_f ml_10 ⟨hp, br_t ho h⟩)
theorem ym_ab_o {post : Int32 → SY → Prop} (hp : vp_in p 4) (ho : ¬ op p.toNatClampNeg = 0) (h : post (nI (ml_pc (ow p.toNatClampNeg))) (N, th, va, tc, upd op p.toNatClampNeg (vp_nar .boolean 0), se, vv, ow, rk, si)) : wpY_abort post (N, th, va, tc, op, se, vv, ow, rk, si) p := by
  unfold wpY_abort
  exact ym_tr_t hp (br_f ml_10 ⟨hp, br_f ho ⟨hp, nm_e ⟨hp, ym_ck h⟩⟩⟩)
end
