/-! ===== X: commit; latest, has, at, size, changed ===== -/
/-- the cells of a new state: own where w has the key, else the older state's -/
def ml_mx (w : Int32) (a : Nat → Int32) (d : Nat) (b : Nat → Int32) (e : Nat) : Nat → Int32 := fun k => if bt w k then a (d + k) else b (e + k)
theorem ml_mx_t {w : Int32} {a : Nat → Int32} {d : Nat} {b : Nat → Int32} {e k : Nat} (h : bt w k = true) : ml_mx w a d b e k = a (d + k) := if_pos h
theorem ml_mx_f {w : Int32} {a : Nat → Int32} {d : Nat} {b : Nat → Int32} {e k : Nat} (h : bt w k = false) : ml_mx w a d b e k = b (e + k) := if_neg (by rw [h]; decide)
def ml_St (n : Nat) (x : Int32) : Prop := ¬ x < 0 ∧ ¬ nI n < x
def ml_Kp (n : Nat) (x : Int32) : Prop := ml_St n x ∧ ¬ x ≤ nI n - 6
theorem ml_St_e {n : Nat} {x : Int32} (hn : n < 2 ^ 30) (h : ml_St n x) : ∃ s, x = nI s ∧ s ≤ n := by
  obtain ⟨s, hs, rfl⟩ := nI_of h.1
  refine ⟨s, rfl, ?_⟩
  have h1 := h.2
  rw [nI_ltI (by omega) hs] at h1
  omega
theorem ml_Kp_e {n : Nat} {x : Int32} (hn : n < 2 ^ 30) (h : ml_Kp n x) : ∃ s, x = nI s ∧ s ≤ n ∧ n < s + 6 := by
  obtain ⟨s, rfl, hs⟩ := ml_St_e hn h.1
  refine ⟨s, rfl, hs, ?_⟩
  have h2 : ¬ nI s ≤ nI n - nI 6 := h.2
  rw [Int32.le_iff_toInt_le, pk_sub_toInt hn (by decide), nI_toInt (by omega)] at h2
  omega
section
variable {N : Int32} {sk sv sc lc op bs vk vv ow rk : Nat → Int32} {p q x y : Int32}
theorem xm_hcL {post : Int32 → Prop} (hp : vp_in p 4) (h1 : ∀ k, k < 32 → bt (rk p.toNatClampNeg) k = true → bs p.toNatClampNeg < lc k → post 1) (h0 : (∀ k, k < 32 → ¬ (bt (rk p.toNatClampNeg) k = true ∧ bs p.toNatClampNeg < lc k)) → post 0) : ∀ d i, i + d = 32 → (∀ k, k < i → ¬ (bt (rk p.toNatClampNeg) k = true ∧ bs p.toNatClampNeg < lc k)) → wX_hasReadChangedKey_2 post p N sk sv sc lc op bs vk vv ow rk (d + 1) (nI i) := by
  intro d
  induction d with
  | zero =>
    intro i hi hz
    obtain rfl : i = 32 := by omega
    exact br_t ml_32 (h0 hz)
  | succ d ih =>
    intro i hi hz
    have hl : i < 32 := by omega
    refine br_f (ml_l32 hl) ⟨hp, xm_hold hl ?_⟩
    cases hb : bt (rk p.toNatClampNeg) i
    · exact br_t rfl (nm_r (nI_1 i) (ih (i + 1) (by omega) (lt_s hz (fun z => by rw [hb] at z; exact absurd z.1 (by decide)))))
    · refine br_f (by decide) ⟨vp_in_nI hl (by decide), hp, ?_⟩
      rw [nI_clamp (by omega)]
      by_cases hle : lc i ≤ bs p.toNatClampNeg
      · exact br_t hle (nm_r (nI_1 i) (ih (i + 1) (by omega) (lt_s hz (fun z => absurd hle (Int32.not_le.mpr z.2)))))
      · exact br_f hle (h1 i hl hb (Int32.not_le.mp hle))
theorem xm_hc {post : Int32 → Prop} (hp : vp_in p 4) (h1 : ∀ k, k < 32 → bt (rk p.toNatClampNeg) k = true → bs p.toNatClampNeg < lc k → post 1) (h0 : (∀ k, k < 32 → ¬ (bt (rk p.toNatClampNeg) k = true ∧ bs p.toNatClampNeg < lc k)) → post 0) : wpX_hasReadChangedKey post (N, sk, sv, sc, lc, op, bs, vk, vv, ow, rk) p := ⟨33, xm_hcL hp h1 h0 32 0 rfl lt_0⟩
theorem xm_msL {post : SX → Prop} (hp : vp_in p 4) {f g : Nat} (hf : f < 8) (hg : g < 8) (hne : f ≠ g) {w : Int32} (h : post (N, sk, ml_cp sv (g * 32) (ml_mx w vv (32 * p.toNatClampNeg) sv (f * 32)) 32, sc, ml_lc lc w N 32, op, bs, vk, vv, ow, rk)) : ∀ d i, i + d = 32 → wX_makeState_71 post p w (nI f) (nI g) N (d + 1) (nI i) sk (ml_cp sv (g * 32) (ml_mx w vv (32 * p.toNatClampNeg) sv (f * 32)) i) sc (ml_lc lc w N i) op bs vk vv ow rk := by
  intro d
  induction d with
  | zero =>
    intro i hi
    obtain rfl : i = 32 := by omega
    exact br_t ml_32 h
  | succ d ih =>
    intro i hi
    have hl : i < 32 := by omega
    refine br_f (ml_l32 hl) (xm_hold hl ?_)
    cases hb : bt w i
    · refine br_t rfl ⟨(ml_sx hf hl).2, (ml_sx hg hl).2, nm_r (e' := ml_cp sv (g * 32) (ml_mx w vv (32 * p.toNatClampNeg) sv (f * 32)) (i + 1)) ?_ (nm_r (nI_1 i) ?_)⟩
      · rw [(ml_sx hg hl).1, (ml_sx hf hl).1, ml_cp_out _ _ _ (by omega), ← ml_mx_f (w := w) (a := vv) (d := 32 * p.toNatClampNeg) (b := sv) (e := f * 32) hb]
        exact ml_cpS _ _ _ _
      · rw [ml_lcN lc w N i hb]
        exact ih (i + 1) (by omega)
    · refine br_f (by decide) ⟨(ml_vx hp hl).2, (ml_sx hg hl).2, nm_r (e' := ml_cp sv (g * 32) (ml_mx w vv (32 * p.toNatClampNeg) sv (f * 32)) (i + 1)) ?_ ⟨vp_in_nI hl (by decide), nm_r (e' := ml_lc lc w N (i + 1)) ?_ (nm_r (nI_1 i) (ih (i + 1) (by omega)))⟩⟩
      · rw [(ml_sx hg hl).1, (ml_vx hp hl).1, ← ml_mx_t (w := w) (a := vv) (d := 32 * p.toNatClampNeg) (b := sv) (e := f * 32) hb]
        exact ml_cpS _ _ _ _
      · rw [nI_clamp (by omega)]
        exact ml_lcS lc w N i hb
theorem xm_ms {post : SX → Prop} {n : Nat} (hn : n + 1 < 2 ^ 31) (hp : vp_in p 4) (h : post (nI (n + 1), upd sk ((n + 1) % 8) ((sk (n % 8) &&& (ow p.toNatClampNeg ^^^ (-1))) ||| (vk p.toNatClampNeg &&& ow p.toNatClampNeg)), ml_cp sv ((n + 1) % 8 * 32) (ml_mx (ow p.toNatClampNeg) vv (32 * p.toNatClampNeg) sv (n % 8 * 32)) 32, upd sc ((n + 1) % 8) (ow p.toNatClampNeg), ml_lc lc (ow p.toNatClampNeg) (nI (n + 1)) 32, op, bs, vk, vv, ow, rk)) : wpX_makeState post (nI n, sk, sv, sc, lc, op, bs, vk, vv, ow, rk) p := by
  have h8 : n % 8 < 8 := Nat.mod_lt _ (by decide)
  have h9 : (n + 1) % 8 < 8 := Nat.mod_lt _ (by decide)
  unfold wpX_makeState
  refine ⟨hp, nm_e (xm_slot (by omega) (nm_r (nI_1 n) (xm_slot hn ⟨vp_in_nI h8 (by decide), hp, vp_in_nI h9 (by decide), nm_r (e' := upd sk ((n + 1) % 8) ((sk (n % 8) &&& (ow p.toNatClampNeg ^^^ (-1))) ||| (vk p.toNatClampNeg &&& ow p.toNatClampNeg))) ?_ ⟨vp_in_nI h9 (by decide), nm_r (e' := upd sc ((n + 1) % 8) (ow p.toNatClampNeg)) ?_ ⟨33, ?_⟩⟩⟩)))⟩
  · rw [nI_clamp (by omega), nI_clamp (by omega)]
  · rw [nI_clamp (by omega)]
  · have g := xm_msL (post := post) (lc := lc) (N := nI (n + 1)) hp h8 h9 (by omega) h 32 0 rfl
    rw [ml_cp0, ml_lc0] at g
    exact g
theorem xm_co_n {post : Int32 → SX → Prop} {r : Int32} (hr : ¬ r = 0) (hw : ∀ P : Int32 → Prop, P r → wpX_refuseTransaction P (N, sk, sv, sc, lc, op, bs, vk, vv, ow, rk) p) (h : post r (N, sk, sv, sc, lc, op, bs, vk, vv, ow, rk)) : wpX_commit post (N, sk, sv, sc, lc, op, bs, vk, vv, ow, rk) p := by
  unfold wpX_commit
  exact hw _ (br_f hr h)
theorem xm_co {post : Int32 → SX → Prop} {n : Nat} (hn : n + 1 < 2 ^ 31) (hp : vp_in p 4) (ho : ¬ op p.toNatClampNeg = 0)
    (h1 : ∀ k, k < 32 → bt (rk p.toNatClampNeg) k = true → bs p.toNatClampNeg < lc k → post (-5) (nI n, sk, sv, sc, lc, upd op p.toNatClampNeg (vp_nar .boolean 0), bs, vk, vv, ow, rk))
    (h0 : (∀ k, k < 32 → ¬ (bt (rk p.toNatClampNeg) k = true ∧ bs p.toNatClampNeg < lc k)) → post (nI (n + 1)) (nI (n + 1), upd sk ((n + 1) % 8) ((sk (n % 8) &&& (ow p.toNatClampNeg ^^^ (-1))) ||| (vk p.toNatClampNeg &&& ow p.toNatClampNeg)), ml_cp sv ((n + 1) % 8 * 32) (ml_mx (ow p.toNatClampNeg) vv (32 * p.toNatClampNeg) sv (n % 8 * 32)) 32, upd sc ((n + 1) % 8) (ow p.toNatClampNeg), ml_lc lc (ow p.toNatClampNeg) (nI (n + 1)) 32, upd op p.toNatClampNeg (vp_nar .boolean 0), bs, vk, vv, ow, rk)) : wpX_commit post (nI n, sk, sv, sc, lc, op, bs, vk, vv, ow, rk) p := by
  unfold wpX_commit
  refine xm_rt_o hp ho (br_t rfl ⟨hp, nm_e (xm_hc hp ?_ ?_)⟩)
  · intro k hk a b
    exact br_f ml_10 (h1 k hk a b)
  · intro a
    refine br_t rfl ?_
    exact xm_ms hn hp (h0 a)
/-! isState, isKept and what rests on them -/
theorem xm_is_t {post : Int32 → Prop} {n : Nat} (hs : ml_St n x) (h : post 1) : wpX_isState post (nI n, sk, sv, sc, lc, op, bs, vk, vv, ow, rk) x := br_f hs.1 (br_f hs.2 h)
theorem xm_is_f {post : Int32 → Prop} {n : Nat} (hs : ¬ ml_St n x) (h : post 0) : wpX_isState post (nI n, sk, sv, sc, lc, op, bs, vk, vv, ow, rk) x := by
  by_cases h0 : x < 0
  · exact br_t h0 h
  · by_cases h1 : nI n < x
    · exact br_f h0 (br_t h1 h)
    · exact absurd ⟨h0, h1⟩ hs
theorem xm_ik_t {post : Int32 → Prop} {n : Nat} (hs : ml_Kp n x) (h : post 1) : wpX_isKept post (nI n, sk, sv, sc, lc, op, bs, vk, vv, ow, rk) x := by
  unfold wpX_isKept
  exact xm_is_t hs.1 (br_f ml_10 (br_f hs.2 h))
theorem xm_ik_f {post : Int32 → Prop} {n : Nat} (hs : ¬ ml_Kp n x) (h : post 0) : wpX_isKept post (nI n, sk, sv, sc, lc, op, bs, vk, vv, ow, rk) x := by
  unfold wpX_isKept
  by_cases h0 : ml_St n x
  · by_cases h1 : x ≤ nI n - 6
    · exact xm_is_t h0 (br_f ml_10 (br_t h1 h))
    · exact absurd ⟨h0, h1⟩ hs
  · exact xm_is_f h0 (br_t rfl h)
theorem xm_ha_n {post : Int32 → Prop} {n : Nat} (hs : ¬ (ml_Kp n x ∧ vp_in y 32)) (h : post 0) : wpX_has post (nI n, sk, sv, sc, lc, op, bs, vk, vv, ow, rk) x y := by
  unfold wpX_has
  by_cases hx : ml_Kp n x
  · exact xm_ik_t hx (br_f ml_10 (xm_ky_f (fun z => hs ⟨hx, z⟩) (br_t rfl h)))
  · exact xm_ik_f hx (br_t rfl h)
theorem xm_ha_o {post : Int32 → Prop} {n s k : Nat} (hs : ml_Kp n (nI s)) (hs' : s < 2 ^ 31) (hk : k < 32) (h : post (ml_b (bt (sk (s % 8)) k))) : wpX_has post (nI n, sk, sv, sc, lc, op, bs, vk, vv, ow, rk) (nI s) (nI k) := by
  have h8 : s % 8 < 8 := Nat.mod_lt _ (by decide)
  unfold wpX_has
  refine xm_ik_t hs (br_f ml_10 (xm_ky_t (vp_in_nI hk (by decide)) (br_f ml_10 (xm_slot hs' ⟨vp_in_nI h8 (by decide), ?_⟩))))
  rw [nI_clamp (by omega)]
  exact xm_hold hk ⟨ml_bn _, h⟩
theorem xm_at_n {post : Int32 → Prop} {n : Nat} (hs : ¬ (ml_Kp n x ∧ vp_in y 32)) (h : post 0) : wpX_at post (nI n, sk, sv, sc, lc, op, bs, vk, vv, ow, rk) x y := by
  unfold wpX_at
  by_cases hx : ml_Kp n x
  · exact xm_ik_t hx (br_f ml_10 (xm_ky_f (fun z => hs ⟨hx, z⟩) (br_t rfl h)))
  · exact xm_ik_f hx (br_t rfl h)
theorem xm_at_o {post : Int32 → Prop} {n s k : Nat} (hs : ml_Kp n (nI s)) (hs' : s < 2 ^ 31) (hk : k < 32) (h : post (sv (s % 8 * 32 + k))) : wpX_at post (nI n, sk, sv, sc, lc, op, bs, vk, vv, ow, rk) (nI s) (nI k) := by
  have h8 : s % 8 < 8 := Nat.mod_lt _ (by decide)
  unfold wpX_at
  refine xm_ik_t hs (br_f ml_10 (xm_ky_t (vp_in_nI hk (by decide)) (br_f ml_10 (xm_slot hs' ⟨(ml_sx h8 hk).2, ?_⟩))))
  rw [(ml_sx h8 hk).1]
  exact h
theorem xm_sz_b {post : Int32 → Prop} {n : Nat} (hs : ¬ ml_St n x) (h : post (-1)) : wpX_size post (nI n, sk, sv, sc, lc, op, bs, vk, vv, ow, rk) x := by
  unfold wpX_size
  exact xm_is_f hs (br_t rfl h)
theorem xm_sz_g {post : Int32 → Prop} {n : Nat} (hs : ml_St n x) (hk : ¬ ml_Kp n x) (h : post (-6)) : wpX_size post (nI n, sk, sv, sc, lc, op, bs, vk, vv, ow, rk) x := by
  unfold wpX_size
  exact xm_is_t hs (br_f ml_10 (xm_ik_f hk (br_t rfl h)))
theorem xm_sz_o {post : Int32 → Prop} {n s : Nat} (hs : ml_Kp n (nI s)) (hs' : s < 2 ^ 31) (h : post (nI (ml_pc (sk (s % 8))))) : wpX_size post (nI n, sk, sv, sc, lc, op, bs, vk, vv, ow, rk) (nI s) := by
  have h8 : s % 8 < 8 := Nat.mod_lt _ (by decide)
  unfold wpX_size
  refine xm_is_t hs.1 (br_f ml_10 (xm_ik_t hs (br_f ml_10 (xm_slot hs' ⟨vp_in_nI h8 (by decide), ?_⟩))))
  rw [nI_clamp (by omega)]
  exact xm_ck h
theorem xm_cdL {post : Int32 → Prop} {a b : Nat} (hb : b < 2 ^ 30) : ∀ d i, a + i + d = b → post (nI (ml_pc (ml_un sc 8 a (i + d)))) → wX_changed_47 post (nI b) N sk sv sc lc op bs vk vv ow rk (d + 1) (ml_un sc 8 a i) (nI (a + i)) := by
  intro d
  induction d with
  | zero =>
    intro i hi h
    exact br_t (nI_le (by omega) (by omega)) (xm_ck h)
  | succ d ih =>
    intro i hi h
    have h8 : (a + i + 1) % 8 < 8 := Nat.mod_lt _ (by decide)
    have g := ih (i + 1) (by omega) (by rw [show i + 1 + d = i + (d + 1) by omega]; exact h)
    refine br_f (nI_ge (by omega) (by omega)) ?_
    rw [nI_1 (a + i)]
    exact xm_slot (by omega) ⟨vp_in_nI h8 (by decide), nm_r (e' := ml_un sc 8 a (i + 1)) (by rw [nI_clamp (by omega)]; rfl) (nm_e g)⟩
theorem xm_cd_x {post : Int32 → Prop} {n : Nat} (hs : ¬ (ml_St n x ∧ ml_St n y ∧ x < y)) (h : post (-1)) : wpX_changed post (nI n, sk, sv, sc, lc, op, bs, vk, vv, ow, rk) x y := by
  unfold wpX_changed
  by_cases hx : ml_St n x
  · by_cases hy : ml_St n y
    · exact xm_is_t hx (br_f ml_10 (xm_is_t hy (br_f ml_10 (br_f (fun z => hs ⟨hx, hy, z⟩) h))))
    · exact xm_is_t hx (br_f ml_10 (xm_is_f hy (br_t rfl h)))
  · exact xm_is_f hx (br_t rfl h)
theorem xm_cd_g {post : Int32 → Prop} {n : Nat} (hs : ml_St n x ∧ ml_St n y ∧ x < y) (hk : ¬ (ml_Kp n x ∧ ml_Kp n y)) (h : post (-6)) : wpX_changed post (nI n, sk, sv, sc, lc, op, bs, vk, vv, ow, rk) x y := by
  unfold wpX_changed
  refine xm_is_t hs.1 (br_f ml_10 (xm_is_t hs.2.1 (br_f ml_10 (br_t hs.2.2 ?_))))
  by_cases hx : ml_Kp n x
  · exact xm_ik_t hx (br_f ml_10 (xm_ik_f (fun z => hk ⟨hx, z⟩) (br_t rfl h)))
  · exact xm_ik_f hx (br_t rfl h)
theorem xm_cd_o {post : Int32 → Prop} {n a b : Nat} (hb : b < 2 ^ 30) (hl : a < b) (ha' : ml_Kp n (nI a)) (hb' : ml_Kp n (nI b)) (h : post (nI (ml_pc (ml_un sc 8 a (b - a))))) : wpX_changed post (nI n, sk, sv, sc, lc, op, bs, vk, vv, ow, rk) (nI a) (nI b) := by
  unfold wpX_changed
  refine xm_is_t ha'.1 (br_f ml_10 (xm_is_t hb'.1 (br_f ml_10 (br_t (nI_lt hl (by omega)) ?_))))
  exact xm_ik_t ha' (br_f ml_10 (xm_ik_t hb' (br_f ml_10 ⟨b - a + 1, xm_cdL hb (b - a) 0 (by omega) (by rw [Nat.zero_add]; exact h)⟩)))
end
