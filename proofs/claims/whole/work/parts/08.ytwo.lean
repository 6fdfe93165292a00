/-! ===== Y: commit; has, at, size, changed ===== -/
section
variable {N : Int32} {op vv ow rk th va tc se si : Nat → Int32} {p q x y : Int32}
theorem ml_cy {a : Nat} (ha : a < 6) {k : Nat} (hk : k < 32) : (nI (32 * a) + nI k).toNatClampNeg = 32 * a + k ∧ vp_in (nI (32 * a) + nI k) 192 := by
  rw [nI_add, nI_clamp (by omega)]
  exact ⟨rfl, vp_in_nI (by omega) (by decide)⟩
theorem ym_snL {post : Int32 → SY → Prop} (hp : vp_in p 4) (h : post N (N, th, va, tc, op, se, vv, ow, rk, ml_or si (ow p.toNatClampNeg) 4)) : ∀ d i, i + d = 4 → wY_commit_207 post p N (d + 1) (nI i) th va tc op se vv ow rk (ml_or si (ow p.toNatClampNeg) i) := by
  intro d
  induction d with
  | zero =>
    intro i hi
    obtain rfl : i = 4 := by omega
    exact br_t (by decide +kernel : (4 : Int32) ≤ nI 4) h
  | succ d ih =>
    intro i hi
    have hl : i < 4 := by omega
    have hv : vp_in (nI i) 4 := vp_in_nI hl (by decide)
    exact br_f (nI_ge (b := 4) hl (by decide)) ⟨hv, hp, hv, nm_r (e' := ml_or si (ow p.toNatClampNeg) (i + 1)) (by rw [nI_clamp (by omega)]; exact ml_orS _ _ _) (nm_r (nI_1 i) (ih (i + 1) (by omega)))⟩
theorem ym_coL {post : Int32 → SY → Prop} (hp : vp_in p 4) {n : Nat} (hn : n + 1 < 2 ^ 31)
    (hb : ∀ k, k < 32 → vp_nar .boolean (ml_mx (ow p.toNatClampNeg) se (32 * p.toNatClampNeg) th (32 * (n % 6)) k) = ml_mx (ow p.toNatClampNeg) se (32 * p.toNatClampNeg) th (32 * (n % 6)) k)
    (h : post (nI (n + 1)) (nI (n + 1), ml_cp th (32 * ((n + 1) % 6)) (ml_mx (ow p.toNatClampNeg) se (32 * p.toNatClampNeg) th (32 * (n % 6))) 32, ml_cp va (32 * ((n + 1) % 6)) (ml_mx (ow p.toNatClampNeg) vv (32 * p.toNatClampNeg) va (32 * (n % 6))) 32, upd tc ((n + 1) % 6) (ow p.toNatClampNeg), op, se, vv, ow, rk, ml_or si (ow p.toNatClampNeg) 4)) :
    ∀ d i, i + d = 32 → wY_commit_83 post p (nI (32 * (n % 6))) (nI (32 * ((n + 1) % 6))) (nI (n + 1)) (d + 1) (nI i) (ml_cp th (32 * ((n + 1) % 6)) (ml_mx (ow p.toNatClampNeg) se (32 * p.toNatClampNeg) th (32 * (n % 6))) i) (ml_cp va (32 * ((n + 1) % 6)) (ml_mx (ow p.toNatClampNeg) vv (32 * p.toNatClampNeg) va (32 * (n % 6))) i) tc op se vv ow rk si := by
  have ha : n % 6 < 6 := Nat.mod_lt _ (by decide)
  have hc : (n + 1) % 6 < 6 := Nat.mod_lt _ (by decide)
  intro d
  induction d with
  | zero =>
    intro i hi
    obtain rfl : i = 32 := by omega
    refine br_t ml_32 ⟨ml_60, hp, (ml_r6 hn).2, nm_r (e' := upd tc ((n + 1) % 6) (ow p.toNatClampNeg)) (by rw [(ml_r6 hn).1]) ⟨5, ?_⟩⟩
    have g := ym_snL (post := post) (si := si) hp h 4 0 rfl
    rw [ml_or0] at g
    exact g
  | succ d ih =>
    intro i hi
    have hl : i < 32 := by omega
    have g := ih (i + 1) (by omega)
    refine br_f (ml_l32 hl) ⟨hp, ym_in hl ?_⟩
    cases hw : bt (ow p.toNatClampNeg) i
    · refine br_t rfl ⟨(ml_cy ha hl).2, ?_⟩
      unfold wY_commit_141
      refine ⟨(ml_cy hc hl).2, nm_r (e' := ml_cp th (32 * ((n + 1) % 6)) (ml_mx (ow p.toNatClampNeg) se (32 * p.toNatClampNeg) th (32 * (n % 6))) (i + 1)) ?_ (br_t rfl ⟨(ml_cy ha hl).2, (ml_cy hc hl).2, nm_r (e' := ml_cp va (32 * ((n + 1) % 6)) (ml_mx (ow p.toNatClampNeg) vv (32 * p.toNatClampNeg) va (32 * (n % 6))) (i + 1)) ?_ (nm_r (nI_1 i) g)⟩)⟩
      · rw [(ml_cy ha hl).1, (ml_cy hc hl).1, ml_cp_out _ _ _ (by omega), ← ml_mx_f (w := ow p.toNatClampNeg) (a := se) (d := 32 * p.toNatClampNeg) (b := th) (e := 32 * (n % 6)) hw, hb i hl]
        exact ml_cpS _ _ _ _
      · rw [(ml_cy ha hl).1, (ml_cy hc hl).1, ml_cp_out _ _ _ (by omega), ← ml_mx_f (w := ow p.toNatClampNeg) (a := vv) (d := 32 * p.toNatClampNeg) (b := va) (e := 32 * (n % 6)) hw]
        exact ml_cpS _ _ _ _
    · refine br_f (by decide) ⟨(ml_vy hp hl).2, ?_⟩
      unfold wY_commit_141
      refine ⟨(ml_cy hc hl).2, nm_r (e' := ml_cp th (32 * ((n + 1) % 6)) (ml_mx (ow p.toNatClampNeg) se (32 * p.toNatClampNeg) th (32 * (n % 6))) (i + 1)) ?_ (br_f (by decide) ⟨(ml_vy hp hl).2, (ml_cy hc hl).2, nm_r (e' := ml_cp va (32 * ((n + 1) % 6)) (ml_mx (ow p.toNatClampNeg) vv (32 * p.toNatClampNeg) va (32 * (n % 6))) (i + 1)) ?_ (nm_r (nI_1 i) g)⟩)⟩
      · rw [(ml_vy hp hl).1, (ml_cy hc hl).1, ← ml_mx_t (w := ow p.toNatClampNeg) (a := se) (d := 32 * p.toNatClampNeg) (b := th) (e := 32 * (n % 6)) hw, hb i hl]
        exact ml_cpS _ _ _ _
      · rw [(ml_vy hp hl).1, (ml_cy hc hl).1, ← ml_mx_t (w := ow p.toNatClampNeg) (a := vv) (d := 32 * p.toNatClampNeg) (b := va) (e := 32 * (n % 6)) hw]
        exact ml_cpS _ _ _ _
theorem ym_co_b {post : Int32 → SY → Prop} (hp : ¬ vp_in p 4) (h : post (-1) (N, th, va, tc, op, se, vv, ow, rk, si)) : wpY_commit post (N, th, va, tc, op, se, vv, ow, rk, si) p := by
  unfold wpY_commit
  exact ym_tr_f hp (br_t rfl h)
theorem ym_co_c {post : Int32 → SY → Prop} (hp : vp_in p 4) (ho : op p.toNatClampNeg = 0) (h : post (-3) (N, th, va, tc, op, se, vv, ow, rk, si)) : wpY_commit post (N, th, va, tc, op, se, vv, ow, rk, si) p := by
  unfold wpY_commit
  exact ym_tr_t hp (br_f ml_10 ⟨hp, br_t ho h⟩)
theorem ym_co_x {post : Int32 → SY → Prop} (hp : vp_in p 4) (ho : ¬ op p.toNatClampNeg = 0) (hx : ¬ rk p.toNatClampNeg &&& si p.toNatClampNeg = 0) (h : post (-5) (N, th, va, tc, upd op p.toNatClampNeg (vp_nar .boolean 0), se, vv, ow, rk, si)) : wpY_commit post (N, th, va, tc, op, se, vv, ow, rk, si) p := by
  unfold wpY_commit
  exact ym_tr_t hp (br_f ml_10 ⟨hp, br_f ho ⟨hp, nm_e ⟨hp, hp, br_f hx h⟩⟩⟩)
theorem ym_co {post : Int32 → SY → Prop} {n : Nat} (hn : n + 1 < 2 ^ 31) (hp : vp_in p 4) (ho : ¬ op p.toNatClampNeg = 0) (hx : rk p.toNatClampNeg &&& si p.toNatClampNeg = 0)
    (hb : ∀ k, k < 32 → vp_nar .boolean (ml_mx (ow p.toNatClampNeg) se (32 * p.toNatClampNeg) th (32 * (n % 6)) k) = ml_mx (ow p.toNatClampNeg) se (32 * p.toNatClampNeg) th (32 * (n % 6)) k)
    (h : post (nI (n + 1)) (nI (n + 1), ml_cp th (32 * ((n + 1) % 6)) (ml_mx (ow p.toNatClampNeg) se (32 * p.toNatClampNeg) th (32 * (n % 6))) 32, ml_cp va (32 * ((n + 1) % 6)) (ml_mx (ow p.toNatClampNeg) vv (32 * p.toNatClampNeg) va (32 * (n % 6))) 32, upd tc ((n + 1) % 6) (ow p.toNatClampNeg), upd op p.toNatClampNeg (vp_nar .boolean 0), se, vv, ow, rk, ml_or si (ow p.toNatClampNeg) 4)) : wpY_commit post (nI n, th, va, tc, op, se, vv, ow, rk, si) p := by
  unfold wpY_commit
  refine ym_tr_t hp (br_f ml_10 ⟨hp, br_f ho ⟨hp, nm_e ⟨hp, hp, br_t hx ⟨ml_60, nm_r (e' := nI (32 * (n % 6))) ?_ (nm_r (nI_1 n) ⟨ml_60, nm_r (e' := nI (32 * ((n + 1) % 6))) ?_ ⟨33, ?_⟩⟩)⟩⟩⟩⟩)
  · rw [ml_rem6 n (by omega)]
    exact pk_mul 32 _
  · rw [ml_rem6 (n + 1) hn]
    exact pk_mul 32 _
  · have g := ym_coL (post := post) (va := va) (tc := tc) (vv := vv) (rk := rk) (si := si) (op := upd op p.toNatClampNeg (vp_nar .boolean 0)) hp hn hb h 32 0 rfl
    rw [ml_cp0, ml_cp0] at g
    exact g
/-! exists, isKept and what rests on them -/
theorem ym_is_t {post : Int32 → Prop} {n : Nat} (hs : ml_St n x) (h : post 1) : wpY_exists post (nI n, th, va, tc, op, se, vv, ow, rk, si) x := br_f hs.1 (br_f hs.2 h)
theorem ym_is_f {post : Int32 → Prop} {n : Nat} (hs : ¬ ml_St n x) (h : post 0) : wpY_exists post (nI n, th, va, tc, op, se, vv, ow, rk, si) x := by
  by_cases h0 : x < 0
  · exact br_t h0 h
  · by_cases h1 : nI n < x
    · exact br_f h0 (br_t h1 h)
    · exact absurd ⟨h0, h1⟩ hs
theorem ym_ik_t {post : Int32 → Prop} {n : Nat} (hs : ml_Kp n x) (h : post 1) : wpY_isKept post (nI n, th, va, tc, op, se, vv, ow, rk, si) x := by
  unfold wpY_isKept
  exact ym_is_t hs.1 (br_f ml_10 (br_f hs.2 h))
theorem ym_ik_f {post : Int32 → Prop} {n : Nat} (hs : ¬ ml_Kp n x) (h : post 0) : wpY_isKept post (nI n, th, va, tc, op, se, vv, ow, rk, si) x := by
  unfold wpY_isKept
  by_cases h0 : ml_St n x
  · by_cases h1 : x ≤ nI n - 6
    · exact ym_is_t h0 (br_f ml_10 (br_t h1 h))
    · exact absurd ⟨h0, h1⟩ hs
  · exact ym_is_f h0 (br_t rfl h)
theorem ym_ha_n {post : Int32 → Prop} {n : Nat} (hs : ¬ (ml_Kp n x ∧ vp_in y 32)) (h : post 0) : wpY_has post (nI n, th, va, tc, op, se, vv, ow, rk, si) x y := by
  unfold wpY_has
  by_cases hx : ml_Kp n x
  · exact ym_ik_t hx (br_f ml_10 (ym_ky_f (fun z => hs ⟨hx, z⟩) (br_t rfl h)))
  · exact ym_ik_f hx (br_t rfl h)
theorem ym_ha_o {post : Int32 → Prop} {n s k : Nat} (hs : ml_Kp n (nI s)) (hs' : s < 2 ^ 31) (hk : k < 32) {b : Bool} (hb : th (32 * (s % 6) + k) = ml_b b) (h : post (ml_b b)) : wpY_has post (nI n, th, va, tc, op, se, vv, ow, rk, si) (nI s) (nI k) := by
  unfold wpY_has
  refine ym_ik_t hs (br_f ml_10 (ym_ky_t (vp_in_nI hk (by decide)) (br_f ml_10 ⟨ml_60, (ml_ry hs' hk).2, ?_⟩)))
  rw [(ml_ry hs' hk).1, hb]
  cases b
  · exact br_t rfl h
  · exact br_f (by decide) h
theorem ym_at_n {post : Int32 → Prop} {n : Nat} (hs : ¬ (ml_Kp n x ∧ vp_in y 32)) (h : post 0) : wpY_at post (nI n, th, va, tc, op, se, vv, ow, rk, si) x y := by
  unfold wpY_at
  exact ym_ha_n hs (br_t rfl h)
theorem ym_at_o {post : Int32 → Prop} {n s k : Nat} (hs : ml_Kp n (nI s)) (hs' : s < 2 ^ 31) (hk : k < 32) {b : Bool} (hb : th (32 * (s % 6) + k) = ml_b b) (hz : b = false → va (32 * (s % 6) + k) = 0) (h : post (va (32 * (s % 6) + k))) : wpY_at post (nI n, th, va, tc, op, se, vv, ow, rk, si) (nI s) (nI k) := by
  unfold wpY_at
  refine ym_ha_o hs hs' hk hb ?_
  cases b
  · rw [hz rfl] at h
    exact br_t rfl h
  · refine br_f (by decide) ⟨ml_60, (ml_ry hs' hk).2, ?_⟩
    rw [(ml_ry hs' hk).1]
    exact h
theorem ym_szL {post : Int32 → Prop} {n s : Nat} (hs : ml_Kp n (nI s)) (hs' : s < 2 ^ 31) {V : Int32} (ht : ∀ k, k < 32 → th (32 * (s % 6) + k) = ml_b (bt V k)) : ∀ d i, i + d = 32 → post (nI (ml_pc V)) → wY_size_25 post (nI s) (nI n) th va tc op se vv ow rk si (d + 1) (nI (ml_cnt (bt V) i)) (nI i) := by
  intro d
  induction d with
  | zero =>
    intro i hi h
    obtain rfl : i = 32 := by omega
    exact br_t ml_32 h
  | succ d ih =>
    intro i hi h
    have hl : i < 32 := by omega
    refine br_f (ml_l32 hl) (ym_ha_o hs hs' hl (ht i hl) ?_)
    have g := ih (i + 1) (by omega) h
    have e : ml_cnt (bt V) (i + 1) = ml_cnt (bt V) i + (if bt V i then 1 else 0) := rfl
    cases hb : bt V i
    · rw [e, hb] at g
      exact br_t rfl (nm_r (nI_1 i) g)
    · rw [e, hb] at g
      exact br_f (by decide) (nm_r (nI_1 _) (nm_r (nI_1 i) g))
theorem ym_sz_b {post : Int32 → Prop} {n : Nat} (hs : ¬ ml_St n x) (h : post (-1)) : wpY_size post (nI n, th, va, tc, op, se, vv, ow, rk, si) x := by
  unfold wpY_size
  exact ym_is_f hs (br_t rfl h)
theorem ym_sz_g {post : Int32 → Prop} {n : Nat} (hs : ml_St n x) (hk : ¬ ml_Kp n x) (h : post (-6)) : wpY_size post (nI n, th, va, tc, op, se, vv, ow, rk, si) x := by
  unfold wpY_size
  exact ym_is_t hs (br_f ml_10 (ym_ik_f hk (br_t rfl h)))
theorem ym_sz_o {post : Int32 → Prop} {n s : Nat} (hs : ml_Kp n (nI s)) (hs' : s < 2 ^ 31) {V : Int32} (ht : ∀ k, k < 32 → th (32 * (s % 6) + k) = ml_b (bt V k)) (h : post (nI (ml_pc V))) : wpY_size post (nI n, th, va, tc, op, se, vv, ow, rk, si) (nI s) := by
  unfold wpY_size
  exact ym_is_t hs.1 (br_f ml_10 (ym_ik_t hs (br_f ml_10 ⟨33, ym_szL hs hs' ht 32 0 rfl h⟩)))
theorem ym_cdL {post : Int32 → Prop} {a b : Nat} (hb : b < 2 ^ 30) : ∀ d i, a + i + d = b → post (nI (ml_pc (ml_un tc 6 a (i + d)))) → wY_changed_49 post (nI b) N th va tc op se vv ow rk si (d + 1) (ml_un tc 6 a i) (nI (a + i + 1)) := by
  intro d
  induction d with
  | zero =>
    intro i hi h
    exact br_t (nI_lt (by omega) (by omega)) (ym_ck h)
  | succ d ih =>
    intro i hi h
    have g := ih (i + 1) (by omega) (by rw [show i + 1 + d = i + (d + 1) by omega]; exact h)
    have hm : a + i + 1 < 2 ^ 31 := by omega
    exact br_f (nI_nlt (by omega) (by omega)) ⟨ml_60, (ml_r6 hm).2, nm_r (e' := ml_un tc 6 a (i + 1)) (by rw [(ml_r6 hm).1]; rfl) (nm_r (nI_1 (a + i + 1)) g)⟩
theorem ym_cd_x {post : Int32 → Prop} {n : Nat} (hs : ¬ (ml_St n x ∧ ml_St n y ∧ x < y)) (h : post (-1)) : wpY_changed post (nI n, th, va, tc, op, se, vv, ow, rk, si) x y := by
  unfold wpY_changed
  by_cases hx : ml_St n x
  · by_cases hy : ml_St n y
    · exact ym_is_t hx (br_f ml_10 (ym_is_t hy (br_f ml_10 (br_f (fun z => hs ⟨hx, hy, z⟩) h))))
    · exact ym_is_t hx (br_f ml_10 (ym_is_f hy (br_t rfl h)))
  · exact ym_is_f hx (br_t rfl h)
theorem ym_cd_g {post : Int32 → Prop} {n : Nat} (hs : ml_St n x ∧ ml_St n y ∧ x < y) (hk : ¬ (ml_Kp n x ∧ ml_Kp n y)) (h : post (-6)) : wpY_changed post (nI n, th, va, tc, op, se, vv, ow, rk, si) x y := by
  unfold wpY_changed
  refine ym_is_t hs.1 (br_f ml_10 (ym_is_t hs.2.1 (br_f ml_10 (br_t hs.2.2 ?_))))
  by_cases hx : ml_Kp n x
  · exact ym_ik_t hx (br_f ml_10 (ym_ik_f (fun z => hk ⟨hx, z⟩) (br_t rfl h)))
  · exact ym_ik_f hx (br_t rfl h)
theorem ym_cd_o {post : Int32 → Prop} {n a b : Nat} (hb : b < 2 ^ 30) (hl : a < b) (ha' : ml_Kp n (nI a)) (hb' : ml_Kp n (nI b)) (h : post (nI (ml_pc (ml_un tc 6 a (b - a))))) : wpY_changed post (nI n, th, va, tc, op, se, vv, ow, rk, si) (nI a) (nI b) := by
  unfold wpY_changed
  refine ym_is_t ha'.1 (br_f ml_10 (ym_is_t hb'.1 (br_f ml_10 (br_t (nI_lt hl (by omega)) ?_))))
  exact ym_ik_t ha' (br_f ml_10 (ym_ik_t hb' (br_f ml_10 (nm_r (nI_1 a) ⟨b - a + 1, ym_cdL hb (b - a) 0 (by omega) (by rw [Nat.zero_add]; exact h)⟩))))
end
