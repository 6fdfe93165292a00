/-! ===== X: begin, write, erase, read, peek, countRange, abort ===== -/
section
variable {N : Int32} {sk sv sc lc op bs vk vv ow rk : Nat → Int32} {p q x y : Int32}
theorem xm_cp {post : SX → Prop} (hp : vp_in p 4) {s : Nat} (hs : s < 8) (h : post (N, sk, sv, sc, lc, op, bs, vk, ml_cp vv (32 * p.toNatClampNeg) (fun k => sv (s * 32 + k)) 32, ow, rk)) : ∀ d i, i + d = 32 → wX_copyNewestToView_22 post p (nI s) N (d + 1) (nI i) sk sv sc lc op bs vk (ml_cp vv (32 * p.toNatClampNeg) (fun k => sv (s * 32 + k)) i) ow rk := by
  intro d
  induction d with
  | zero =>
    intro i hi
    obtain rfl : i = 32 := by omega
    exact br_t ml_32 h
  | succ d ih =>
    intro i hi
    have hl : i < 32 := by omega
    exact br_f (ml_l32 hl) ⟨(ml_sx hs hl).2, (ml_vx hp hl).2, nm_r (e' := ml_cp vv (32 * p.toNatClampNeg) (fun k => sv (s * 32 + k)) (i + 1)) (by rw [(ml_vx hp hl).1, (ml_sx hs hl).1]; exact ml_cpS _ _ (fun k => sv (s * 32 + k)) _) (nm_r (nI_1 i) (ih (i + 1) (by omega)))⟩
theorem xm_copy {post : SX → Prop} {n : Nat} (hn : n < 2 ^ 31) (hp : vp_in p 4) (h : post (nI n, sk, sv, sc, lc, op, bs, upd vk p.toNatClampNeg (sk (n % 8)), ml_cp vv (32 * p.toNatClampNeg) (fun k => sv (n % 8 * 32 + k)) 32, ow, rk)) : wpX_copyNewestToView post (nI n, sk, sv, sc, lc, op, bs, vk, vv, ow, rk) p := by
  have h8 : n % 8 < 8 := Nat.mod_lt _ (by decide)
  unfold wpX_copyNewestToView
  refine xm_slot hn ⟨vp_in_nI h8 (by decide), hp, nm_r (e' := upd vk p.toNatClampNeg (sk (n % 8))) (by rw [nI_clamp (by omega)]) ⟨33, ?_⟩⟩
  have g := xm_cp (post := post) (N := nI n) (vk := upd vk p.toNatClampNeg (sk (n % 8))) hp h8 h 32 0 rfl
  rw [ml_cp0] at g
  exact g
theorem xm_begin_b {post : Int32 → SX → Prop} (hp : ¬ vp_in p 4) (h : post (-1) (N, sk, sv, sc, lc, op, bs, vk, vv, ow, rk)) : wpX_begin post (N, sk, sv, sc, lc, op, bs, vk, vv, ow, rk) p := by
  unfold wpX_begin
  exact xm_tr_f hp (br_t rfl h)
theorem xm_begin_o {post : Int32 → SX → Prop} (hp : vp_in p 4) (ho : ¬ op p.toNatClampNeg = 0) (h : post (-2) (N, sk, sv, sc, lc, op, bs, vk, vv, ow, rk)) : wpX_begin post (N, sk, sv, sc, lc, op, bs, vk, vv, ow, rk) p := by
  unfold wpX_begin
  exact xm_tr_t hp (br_f ml_10 ⟨hp, br_f ho h⟩)
theorem xm_begin {post : Int32 → SX → Prop} {n : Nat} (hn : n < 2 ^ 31) (hp : vp_in p 4) (ho : op p.toNatClampNeg = 0) (h : post (nI n) (nI n, sk, sv, sc, lc, upd op p.toNatClampNeg (vp_nar .boolean 1), upd bs p.toNatClampNeg (nI n), upd vk p.toNatClampNeg (sk (n % 8)), ml_cp vv (32 * p.toNatClampNeg) (fun k => sv (n % 8 * 32 + k)) 32, upd ow p.toNatClampNeg 0, upd rk p.toNatClampNeg 0)) : wpX_begin post (nI n, sk, sv, sc, lc, op, bs, vk, vv, ow, rk) p := by
  unfold wpX_begin
  refine xm_tr_t hp (br_f ml_10 ⟨hp, br_t ho ⟨hp, nm_e ⟨hp, nm_e ⟨hp, nm_e ⟨hp, nm_e ?_⟩⟩⟩⟩⟩)
  exact xm_copy hn hp h
/-! refuseChange, change -/
theorem xm_rc_n {post : Int32 → Prop} {r : Int32} (hr : ¬ r = 0) (hw : ∀ P : Int32 → Prop, P r → wpX_refuseKey P (N, sk, sv, sc, lc, op, bs, vk, vv, ow, rk) p q) (h : post r) : wpX_refuseChange post (N, sk, sv, sc, lc, op, bs, vk, vv, ow, rk) p q := by
  unfold wpX_refuseChange
  exact hw _ (br_f hr h)
theorem xm_rc_f {post : Int32 → Prop} {k : Nat} (hk : k < 32) (hp : vp_in p 4) (ho : ¬ op p.toNatClampNeg = 0) (hb : bt (ow p.toNatClampNeg) k = false) (hc : 6 ≤ ml_pc (ow p.toNatClampNeg)) (h : post (-4)) : wpX_refuseChange post (N, sk, sv, sc, lc, op, bs, vk, vv, ow, rk) p (nI k) := by
  unfold wpX_refuseChange
  refine xm_rk_o (vp_in_nI hk (by decide)) hp ho (br_t rfl ⟨hp, xm_hold hk ?_⟩)
  rw [hb]
  refine br_t rfl ⟨hp, xm_ck (br_t ?_ h)⟩
  exact nI_le (a := 6) hc (by have := ml_pc_le (ow p.toNatClampNeg); omega)
theorem xm_rc_o {post : Int32 → Prop} {k : Nat} (hk : k < 32) (hp : vp_in p 4) (ho : ¬ op p.toNatClampNeg = 0) (hb : bt (ow p.toNatClampNeg) k = true ∨ ml_pc (ow p.toNatClampNeg) < 6) (h : post 0) : wpX_refuseChange post (N, sk, sv, sc, lc, op, bs, vk, vv, ow, rk) p (nI k) := by
  unfold wpX_refuseChange
  refine xm_rk_o (vp_in_nI hk (by decide)) hp ho (br_t rfl ⟨hp, xm_hold hk ?_⟩)
  cases hc : bt (ow p.toNatClampNeg) k
  · refine br_t rfl ⟨hp, xm_ck (br_f ?_ h)⟩
    refine nI_ge (b := 6) ?_ (by decide)
    rcases hb with z | z
    · rw [hc] at z
      exact absurd z (by decide)
    · exact z
  · exact br_f (by decide) h
theorem xm_ch_n {post : Int32 → SX → Prop} {r : Int32} (hr : ¬ r = 0) (hw : ∀ P : Int32 → Prop, P r → wpX_refuseChange P (N, sk, sv, sc, lc, op, bs, vk, vv, ow, rk) p q) (h : post r (N, sk, sv, sc, lc, op, bs, vk, vv, ow, rk)) : wpX_change post (N, sk, sv, sc, lc, op, bs, vk, vv, ow, rk) p q x y := by
  unfold wpX_change
  exact hw _ (br_f hr h)
theorem xm_ch_o {post : Int32 → SX → Prop} {k : Nat} (hk : k < 32) (hp : vp_in p 4) (ho : ¬ op p.toNatClampNeg = 0) (hb : bt (ow p.toNatClampNeg) k = true ∨ ml_pc (ow p.toNatClampNeg) < 6)
    (h : post (nI (ml_pc (ow p.toNatClampNeg ||| ((1 : Int32) <<< (nI k &&& 31))))) (N, sk, sv, sc, lc, op, bs, upd vk p.toNatClampNeg ((vk p.toNatClampNeg &&& (((1 : Int32) <<< (nI k &&& 31)) ^^^ (-1))) ||| (x <<< (nI k &&& 31))), upd vv (32 * p.toNatClampNeg + k) y, upd ow p.toNatClampNeg (ow p.toNatClampNeg ||| ((1 : Int32) <<< (nI k &&& 31))), rk)) : wpX_change post (N, sk, sv, sc, lc, op, bs, vk, vv, ow, rk) p (nI k) x y := by
  unfold wpX_change
  refine xm_rc_o hk hp ho hb (br_t rfl ⟨hp, hp, nm_e ⟨(ml_vx hp hk).2, nm_r (e' := upd vv (32 * p.toNatClampNeg + k) y) (by rw [(ml_vx hp hk).1]) ⟨hp, hp, nm_e ⟨hp, xm_ck ?_⟩⟩⟩⟩)
  rw [pk_us]
  exact h
/-! read, peek -/
theorem xm_rd_n {post : Int32 → SX → Prop} {r : Int32} (hr : ¬ r = 0) (hw : ∀ P : Int32 → Prop, P r → wpX_refuseKey P (N, sk, sv, sc, lc, op, bs, vk, vv, ow, rk) p q) (h : post r (N, sk, sv, sc, lc, op, bs, vk, vv, ow, rk)) : wpX_read post (N, sk, sv, sc, lc, op, bs, vk, vv, ow, rk) p q := by
  unfold wpX_read
  exact hw _ (br_f hr h)
theorem xm_rd_o {post : Int32 → SX → Prop} {k : Nat} (hk : k < 32) (hp : vp_in p 4) (ho : ¬ op p.toNatClampNeg = 0) (h : post (ml_b (bt (vk p.toNatClampNeg) k)) (N, sk, sv, sc, lc, op, bs, vk, vv, ow, upd rk p.toNatClampNeg (rk p.toNatClampNeg ||| ((1 : Int32) <<< (nI k &&& 31))))) : wpX_read post (N, sk, sv, sc, lc, op, bs, vk, vv, ow, rk) p (nI k) := by
  unfold wpX_read
  refine xm_rk_o (vp_in_nI hk (by decide)) hp ho (br_t rfl ⟨hp, hp, nm_e ⟨hp, xm_hold hk ?_⟩⟩)
  cases hb : bt (vk p.toNatClampNeg) k
  · rw [hb] at h
    exact br_t rfl h
  · rw [hb] at h
    exact br_f (by decide) h
theorem xm_pe_n {post : Int32 → Prop} {r : Int32} (hr : ¬ r = 0) (hw : ∀ P : Int32 → Prop, P r → wpX_refuseKey P (N, sk, sv, sc, lc, op, bs, vk, vv, ow, rk) p q) (h : post 0) : wpX_peek post (N, sk, sv, sc, lc, op, bs, vk, vv, ow, rk) p q := by
  unfold wpX_peek
  exact hw _ (br_f hr h)
theorem xm_pe_o {post : Int32 → Prop} {k : Nat} (hk : k < 32) (hp : vp_in p 4) (ho : ¬ op p.toNatClampNeg = 0) (h : post (vv (32 * p.toNatClampNeg + k))) : wpX_peek post (N, sk, sv, sc, lc, op, bs, vk, vv, ow, rk) p (nI k) := by
  unfold wpX_peek
  refine xm_rk_o (vp_in_nI hk (by decide)) hp ho (br_t rfl ⟨(ml_vx hp hk).2, ?_⟩)
  rw [(ml_vx hp hk).1]
  exact h
/-! countRange -/
theorem xm_kbL {post : Int32 → Prop} {lo hi : Nat} (hh : hi < 32) : ∀ d i, lo + i + d = hi + 1 → post (ml_rg lo (i + d)) → wX_keysBetween_4 post (nI hi) (d + 1) (ml_rg lo i) (nI (lo + i)) := by
  intro d
  induction d with
  | zero =>
    intro i hi' h
    exact br_t (nI_lt (by omega) (by omega)) h
  | succ d ih =>
    intro i hi' h
    refine br_f (nI_nlt (by omega) (by omega)) (nm_e (nm_r (nI_1 (lo + i)) ?_))
    have g := ih (i + 1) (by omega) (by rw [show i + 1 + d = i + (d + 1) by omega]; exact h)
    exact g
theorem xm_kb {post : Int32 → Prop} {lo hi : Nat} (hh : hi < 32) (hl : lo ≤ hi) (h : post (ml_rg lo (hi + 1 - lo))) : wpX_keysBetween post (nI lo) (nI hi) := ⟨hi + 1 - lo + 1, xm_kbL hh (hi + 1 - lo) 0 (by omega) (by rw [Nat.zero_add]; exact h)⟩
theorem xm_cr_l {post : Int32 → SX → Prop} (hx : ¬ vp_in x 32) (h : post (-1) (N, sk, sv, sc, lc, op, bs, vk, vv, ow, rk)) : wpX_countRange post (N, sk, sv, sc, lc, op, bs, vk, vv, ow, rk) p x y := by
  unfold wpX_countRange
  exact xm_ky_f hx (br_t rfl h)
theorem xm_cr_h {post : Int32 → SX → Prop} (hy : ¬ vp_in y 32) (h : post (-1) (N, sk, sv, sc, lc, op, bs, vk, vv, ow, rk)) : wpX_countRange post (N, sk, sv, sc, lc, op, bs, vk, vv, ow, rk) p x y := by
  by_cases hx : vp_in x 32
  · unfold wpX_countRange
    exact xm_ky_t hx (br_f ml_10 (xm_ky_f hy (br_t rfl h)))
  · exact xm_cr_l hx h
theorem xm_cr_g {post : Int32 → SX → Prop} (hx : vp_in x 32) (hy : vp_in y 32) (hl : ¬ x ≤ y) (h : post (-1) (N, sk, sv, sc, lc, op, bs, vk, vv, ow, rk)) : wpX_countRange post (N, sk, sv, sc, lc, op, bs, vk, vv, ow, rk) p x y := by
  unfold wpX_countRange
  exact xm_ky_t hx (br_f ml_10 (xm_ky_t hy (br_f ml_10 (br_f hl h))))
theorem xm_cr_n {post : Int32 → SX → Prop} {r : Int32} (hr : ¬ r = 0) (hx : vp_in x 32) (hy : vp_in y 32) (hl : x ≤ y) (hw : ∀ P : Int32 → Prop, P r → wpX_refuseTransaction P (N, sk, sv, sc, lc, op, bs, vk, vv, ow, rk) p) (h : post r (N, sk, sv, sc, lc, op, bs, vk, vv, ow, rk)) : wpX_countRange post (N, sk, sv, sc, lc, op, bs, vk, vv, ow, rk) p x y := by
  unfold wpX_countRange
  exact xm_ky_t hx (br_f ml_10 (xm_ky_t hy (br_f ml_10 (br_t hl (hw _ (br_f hr h))))))
theorem xm_cr_o {post : Int32 → SX → Prop} {lo hi : Nat} (hh : hi < 32) (hl : lo ≤ hi) (hp : vp_in p 4) (ho : ¬ op p.toNatClampNeg = 0) (h : post (nI (ml_pc (vk p.toNatClampNeg &&& ml_rg lo (hi + 1 - lo)))) (N, sk, sv, sc, lc, op, bs, vk, vv, ow, upd rk p.toNatClampNeg (rk p.toNatClampNeg ||| ml_rg lo (hi + 1 - lo)))) : wpX_countRange post (N, sk, sv, sc, lc, op, bs, vk, vv, ow, rk) p (nI lo) (nI hi) := by
  unfold wpX_countRange
  exact xm_ky_t (vp_in_nI (by omega) (by decide)) (br_f ml_10 (xm_ky_t (vp_in_nI hh (by decide)) (br_f ml_10 (br_t (nI_le hl (by omega)) (xm_rt_o hp ho (br_t rfl (xm_kb hh hl ⟨hp, hp, nm_e ⟨hp, xm_ck h⟩⟩)))))))
/-! abort -/
theorem xm_ab_n {post : Int32 → SX → Prop} {r : Int32} (hr : ¬ r = 0) (hw : ∀ P : Int32 → Prop, P r → wpX_refuseTransaction P (N, sk, sv, sc, lc, op, bs, vk, vv, ow, rk) p) (h : post r (N, sk, sv, sc, lc, op, bs, vk, vv, ow, rk)) : wpX_abort post (N, sk, sv, sc, lc, op, bs, vk, vv, ow, rk) p := by
  unfold wpX_abort
  exact hw _ (br_f hr h)
theorem xm_ab_o {post : Int32 → SX → Prop} (hp : vp_in p 4) (ho : ¬ op p.toNatClampNeg = 0) (h : post (nI (ml_pc (ow p.toNatClampNeg))) (N, sk, sv, sc, lc, upd op p.toNatClampNeg (vp_nar .boolean 0), bs, vk, vv, ow, rk)) : wpX_abort post (N, sk, sv, sc, lc, op, bs, vk, vv, ow, rk) p := by
  unfold wpX_abort
  exact xm_rt_o hp ho (br_t rfl ⟨hp, nm_e ⟨hp, xm_ck h⟩⟩)
end
