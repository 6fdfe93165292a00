/-! ===== what is owed, a method at a time ===== -/
theorem xm_rk_x {post : Int32 → Prop} {N : Int32} {sk sv sc lc op bs vk vv ow rk : Nat → Int32} {p q : Int32} (hs : ¬ (vp_in p 4 ∧ vp_in q 32)) (h : post (-1)) : wpX_refuseKey post (N, sk, sv, sc, lc, op, bs, vk, vv, ow, rk) p q := by
  by_cases hp : vp_in p 4
  · exact xm_rk_k (fun z => hs ⟨hp, z⟩) h
  · exact xm_rk_b hp h
theorem i_vc_begin {k : Nat} {u : SX} {v : SY} (I : i_Rel k u v) (hk : k + 4 ≤ 2048) (v1 : Int32) : wpX_begin (fun r u' => wpY_begin (fun r' v' => r' = r ∧ i_Rel (k + 4) u' v') v v1) u v1 := by
  have J := i_up I
  obtain ⟨n, sk, sv, sc, lc, op, bs, vk, vv, ow, rk, th, va, tc, se, si, hn, rfl, rfl, R⟩ := I
  by_cases hp : vp_in v1 4
  · by_cases ho : op v1.toNatClampNeg = 0
    · refine xm_begin (by omega) hp ho (ym_begin (by omega) hp ho ?_ ⟨rfl, ?_⟩)
      · intro j hj
        rw [(R.1 n j (Nat.le_refl n) (by omega) hj).1, ml_bz]
      · rw [ml_cp_f vv (32 * v1.toNatClampNeg) (f := fun j => sv (n % 8 * 32 + j)) (g := fun j => va (32 * (n % 6) + j)) (fun i hi => (R.1 n i (Nat.le_refl n) (by omega) hi).2.1)]
        exact ⟨n, _, _, _, _, _, _, _, _, _, _, _, _, _, _, _, by omega, rfl, rfl, ml_R_begin R (ml_p4 hp)⟩
    · exact xm_begin_o hp ho (ym_begin_o hp ho ⟨rfl, J⟩)
  · exact xm_begin_b hp (ym_begin_b hp ⟨rfl, J⟩)
/-- write and erase: one answer and two related states, whatever is asked of them -/
theorem ml_give {k : Nat} {u : SX} {v : SY} (I : i_Rel k u v) (v1 v2 w : Int32) (b : Bool) (hw : b = false → w = 0) : ∃ (r : Int32) (u' : SX) (v' : SY), (∀ P : Int32 → SX → Prop, P r u' → wpX_change P u v1 v2 (ml_b b) w) ∧ (∀ P : Int32 → SY → Prop, P r v' → wpY_give P v v1 v2 (ml_b b) w) ∧ i_Rel (k + 4) u' v' := by
  have J := i_up I
  obtain ⟨n, sk, sv, sc, lc, op, bs, vk, vv, ow, rk, th, va, tc, se, si, hn, rfl, rfl, R⟩ := I
  by_cases hs : vp_in v1 4 ∧ vp_in v2 32
  · obtain ⟨hp, hq⟩ := hs
    obtain ⟨key, hy, rfl⟩ := vp_in_of hq (by decide)
    by_cases ho : op v1.toNatClampNeg = 0
    · exact ⟨-3, _, _, fun P h => xm_ch_n (by decide) (fun P' h' => xm_rc_n (by decide) (fun P'' h'' => xm_rk_c hq hp ho h'') h') h, fun P h => ym_gi_c hp hq ho h, J⟩
    · by_cases hc : bt (ow v1.toNatClampNeg) key = true ∨ ml_pc (ow v1.toNatClampNeg) < 6
      · refine ⟨_, _, _, fun P h => xm_ch_o hy hp ho hc h, fun P h => ym_gi_o hy hp ho hc b h, n, _, _, _, _, _, _, _, _, _, _, _, _, _, _, _, by omega, rfl, rfl, ml_R_give R (ml_p4 hp) hy hc ?_ hw⟩
        intro i hi
        cases b
        · exact ml_put0 _ _ hy _ hi
        · exact ml_put1 _ _ hy _ hi
      · have h6 := R.2.2.2.2.2.2 _ (ml_p4 hp)
        have hb : bt (ow v1.toNatClampNeg) key = false := by
          cases hb : bt (ow v1.toNatClampNeg) key
          · rfl
          · exact absurd (Or.inl hb) hc
        have h7 : ¬ ml_pc (ow v1.toNatClampNeg) < 6 := fun z => hc (Or.inr z)
        exact ⟨-4, _, _, fun P h => xm_ch_n (by decide) (fun P' h' => xm_rc_f hy hp ho hb (by omega) h') h, fun P h => ym_gi_f hy hp ho hb (by omega) h, J⟩
  · exact ⟨-1, _, _, fun P h => xm_ch_n (by decide) (fun P' h' => xm_rc_n (by decide) (fun P'' h'' => xm_rk_x hs h'') h') h, fun P h => ym_gi_b hs h, J⟩
theorem i_vc_write {k : Nat} {u : SX} {v : SY} (I : i_Rel k u v) (hk : k + 4 ≤ 2048) (v1 : Int32) (v2 : Int32) (v3 : Int32) : wpX_write (fun r u' => wpY_write (fun r' v' => r' = r ∧ i_Rel (k + 4) u' v') v v1 v2 v3) u v1 v2 v3 := by
  obtain ⟨r, u', v', hX, hY, J⟩ := ml_give I v1 v2 v3 true (fun z => absurd z (by decide))
  obtain ⟨a0, a1, a2, a3, a4, a5, a6, a7, a8, a9, a10⟩ := u
  obtain ⟨b0, b1, b2, b3, b4, b5, b6, b7, b8, b9⟩ := v
  unfold wpX_write wpY_write
  refine hX _ ?_
  refine hY _ ?_
  exact ⟨rfl, J⟩
theorem i_vc_erase {k : Nat} {u : SX} {v : SY} (I : i_Rel k u v) (hk : k + 4 ≤ 2048) (v1 : Int32) (v2 : Int32) : wpX_erase (fun r u' => wpY_erase (fun r' v' => r' = r ∧ i_Rel (k + 4) u' v') v v1 v2) u v1 v2 := by
  obtain ⟨r, u', v', hX, hY, J⟩ := ml_give I v1 v2 0 false (fun _ => rfl)
  obtain ⟨a0, a1, a2, a3, a4, a5, a6, a7, a8, a9, a10⟩ := u
  obtain ⟨b0, b1, b2, b3, b4, b5, b6, b7, b8, b9⟩ := v
  unfold wpX_erase wpY_erase
  refine hX _ ?_
  refine hY _ ?_
  exact ⟨rfl, J⟩
theorem i_vc_read {k : Nat} {u : SX} {v : SY} (I : i_Rel k u v) (hk : k + 4 ≤ 2048) (v1 : Int32) (v2 : Int32) : wpX_read (fun r u' => wpY_read (fun r' v' => r' = r ∧ i_Rel (k + 4) u' v') v v1 v2) u v1 v2 := by
  have J := i_up I
  obtain ⟨n, sk, sv, sc, lc, op, bs, vk, vv, ow, rk, th, va, tc, se, si, hn, rfl, rfl, R⟩ := I
  by_cases hs : vp_in v1 4 ∧ vp_in v2 32
  · obtain ⟨hp, hq⟩ := hs
    obtain ⟨key, hy, rfl⟩ := vp_in_of hq (by decide)
    by_cases ho : op v1.toNatClampNeg = 0
    · exact xm_rd_n (by decide) (fun P h => xm_rk_c hq hp ho h) (ym_rd_c hp hq ho ⟨rfl, J⟩)
    · exact xm_rd_o hy hp ho (ym_rd_o hy hp ho (R.2.2.1 _ key (ml_p4 hp) hy).1 ⟨rfl, n, _, _, _, _, _, _, _, _, _, _, _, _, _, _, _, by omega, rfl, rfl, R⟩)
  · exact xm_rd_n (by decide) (fun P h => xm_rk_x hs h) (ym_rd_b hs ⟨rfl, J⟩)
theorem i_vc_peek {k : Nat} {u : SX} {v : SY} (I : i_Rel k u v) (hk : k + 4 ≤ 2048) (v1 : Int32) (v2 : Int32) : wpX_peek (fun r => wpY_peek (fun r' => r' = r ∧ i_Rel (k + 4) u v) v v1 v2) u v1 v2 := by
  have J := i_up I
  obtain ⟨n, sk, sv, sc, lc, op, bs, vk, vv, ow, rk, th, va, tc, se, si, hn, rfl, rfl, R⟩ := I
  by_cases hs : vp_in v1 4 ∧ vp_in v2 32
  · obtain ⟨hp, hq⟩ := hs
    obtain ⟨key, hy, rfl⟩ := vp_in_of hq (by decide)
    by_cases ho : op v1.toNatClampNeg = 0
    · exact xm_pe_n (r := -3) (by decide) (fun P h => xm_rk_c hq hp ho h) (ym_pe_c hp hq ho ⟨rfl, J⟩)
    · exact xm_pe_o hy hp ho (ym_pe_o hy hp ho (R.2.2.1 _ key (ml_p4 hp) hy).1 (R.2.2.1 _ key (ml_p4 hp) hy).2 ⟨rfl, J⟩)
  · exact xm_pe_n (r := -1) (by decide) (fun P h => xm_rk_x hs h) (ym_pe_b hs ⟨rfl, J⟩)
theorem i_vc_countRange {k : Nat} {u : SX} {v : SY} (I : i_Rel k u v) (hk : k + 4 ≤ 2048) (v1 : Int32) (v2 : Int32) (v3 : Int32) : wpX_countRange (fun r u' => wpY_countRange (fun r' v' => r' = r ∧ i_Rel (k + 4) u' v') v v1 v2 v3) u v1 v2 v3 := by
  have J := i_up I
  obtain ⟨n, sk, sv, sc, lc, op, bs, vk, vv, ow, rk, th, va, tc, se, si, hn, rfl, rfl, R⟩ := I
  by_cases hs : vp_in v1 4 ∧ vp_in v2 32 ∧ vp_in v3 32 ∧ v2 ≤ v3
  · have hs' := hs
    obtain ⟨hp, hx, hy, hl⟩ := hs
    by_cases ho : op v1.toNatClampNeg = 0
    · exact xm_cr_n (by decide) hx hy hl (fun P h => xm_rt_c hp ho h) (ym_cr_c hs' ho ⟨rfl, J⟩)
    · obtain ⟨lo, hlo, rfl⟩ := vp_in_of hx (by decide)
      obtain ⟨hi, hhi, rfl⟩ := vp_in_of hy (by decide)
      rw [nI_leI (by omega) (by omega)] at hl
      exact xm_cr_o hhi hl hp ho (ym_cr_o hhi hl hp ho (fun j hj => (R.2.2.1 _ j (ml_p4 hp) hj).1) ⟨rfl, n, _, _, _, _, _, _, _, _, _, _, _, _, _, _, _, by omega, rfl, rfl, R⟩)
  · have hY := ym_cr_b (post := fun r' v' => r' = -1 ∧ i_Rel (k + 4) (nI n, sk, sv, sc, lc, op, bs, vk, vv, ow, rk) v') hs ⟨rfl, J⟩
    by_cases hx : vp_in v2 32
    · by_cases hy : vp_in v3 32
      · by_cases hl : v2 ≤ v3
        · exact xm_cr_n (by decide) hx hy hl (fun P h => xm_rt_b (fun z => hs ⟨z, hx, hy, hl⟩) h) hY
        · exact xm_cr_g hx hy hl hY
      · exact xm_cr_h hy hY
    · exact xm_cr_l hx hY
theorem i_vc_commit {k : Nat} {u : SX} {v : SY} (I : i_Rel k u v) (hk : k + 4 ≤ 2048) (v1 : Int32) : wpX_commit (fun r u' => wpY_commit (fun r' v' => r' = r ∧ i_Rel (k + 4) u' v') v v1) u v1 := by
  have J := i_up I
  obtain ⟨n, sk, sv, sc, lc, op, bs, vk, vv, ow, rk, th, va, tc, se, si, hn, rfl, rfl, R⟩ := I
  by_cases hp : vp_in v1 4
  · by_cases ho : op v1.toNatClampNeg = 0
    · exact xm_co_n (by decide) (fun P h => xm_rt_c hp ho h) (ym_co_c hp ho ⟨rfl, J⟩)
    · have h4 := ml_p4 hp
      have r6 := R.2.2.2.2.2.1
      refine xm_co (by omega) hp ho ?_ ?_
      · intro key hy a b
        exact ym_co_x hp ho (fun z => (ml_meet _ _).mp z key hy ⟨a, (r6 _ key h4 hy).mpr b⟩) ⟨rfl, n, _, _, _, _, _, _, _, _, _, _, _, _, _, _, _, by omega, rfl, rfl, R⟩
      · intro a
        refine ym_co (by omega) hp ho ((ml_meet _ _).mpr (fun key hy z => a key hy ⟨z.1, (r6 _ key h4 hy).mp z.2⟩)) ?_ ⟨rfl, n + 1, _, _, _, _, _, _, _, _, _, _, _, _, _, _, _, by omega, rfl, rfl, ml_R_commit R (by omega) h4 (fun _ _ => rfl) (fun _ _ => rfl) (fun _ _ => rfl)⟩
        intro key hy
        cases hb : bt (ow v1.toNatClampNeg) key
        · rw [ml_mx_f hb, (R.1 n key (Nat.le_refl n) (by omega) hy).1, ml_bz]
        · rw [ml_mx_t hb, (R.2.2.1 _ key h4 hy).1, ml_bz]
  · exact xm_co_n (by decide) (fun P h => xm_rt_b hp h) (ym_co_b hp ⟨rfl, J⟩)
theorem i_vc_abort {k : Nat} {u : SX} {v : SY} (I : i_Rel k u v) (hk : k + 4 ≤ 2048) (v1 : Int32) : wpX_abort (fun r u' => wpY_abort (fun r' v' => r' = r ∧ i_Rel (k + 4) u' v') v v1) u v1 := by
  have J := i_up I
  obtain ⟨n, sk, sv, sc, lc, op, bs, vk, vv, ow, rk, th, va, tc, se, si, hn, rfl, rfl, R⟩ := I
  by_cases hp : vp_in v1 4
  · by_cases ho : op v1.toNatClampNeg = 0
    · exact xm_ab_n (by decide) (fun P h => xm_rt_c hp ho h) (ym_ab_c hp ho ⟨rfl, J⟩)
    · exact xm_ab_o hp ho (ym_ab_o hp ho ⟨rfl, n, _, _, _, _, _, _, _, _, _, _, _, _, _, _, _, by omega, rfl, rfl, R⟩)
  · exact xm_ab_n (by decide) (fun P h => xm_rt_b hp h) (ym_ab_b hp ⟨rfl, J⟩)
theorem i_vc_latest {k : Nat} {u : SX} {v : SY} (I : i_Rel k u v) (hk : k + 4 ≤ 2048) : wpX_latest (fun r => wpY_latest (fun r' => r' = r ∧ i_Rel (k + 4) u v) v) u := by
  have J := i_up I
  obtain ⟨n, sk, sv, sc, lc, op, bs, vk, vv, ow, rk, th, va, tc, se, si, hn, rfl, rfl, R⟩ := I
  exact ⟨rfl, J⟩
theorem i_vc_has {k : Nat} {u : SX} {v : SY} (I : i_Rel k u v) (hk : k + 4 ≤ 2048) (v1 : Int32) (v2 : Int32) : wpX_has (fun r => wpY_has (fun r' => r' = r ∧ i_Rel (k + 4) u v) v v1 v2) u v1 v2 := by
  have J := i_up I
  obtain ⟨n, sk, sv, sc, lc, op, bs, vk, vv, ow, rk, th, va, tc, se, si, hn, rfl, rfl, R⟩ := I
  by_cases hs : ml_Kp n v1 ∧ vp_in v2 32
  · obtain ⟨hx, hq⟩ := hs
    obtain ⟨key, hy, rfl⟩ := vp_in_of hq (by decide)
    obtain ⟨s, rfl, h1, h2⟩ := ml_Kp_e (by omega) hx
    exact xm_ha_o hx (by omega) hy (ym_ha_o hx (by omega) hy (R.1 s key h1 h2 hy).1 ⟨rfl, J⟩)
  · exact xm_ha_n hs (ym_ha_n hs ⟨rfl, J⟩)
theorem i_vc_at {k : Nat} {u : SX} {v : SY} (I : i_Rel k u v) (hk : k + 4 ≤ 2048) (v1 : Int32) (v2 : Int32) : wpX_at (fun r => wpY_at (fun r' => r' = r ∧ i_Rel (k + 4) u v) v v1 v2) u v1 v2 := by
  have J := i_up I
  obtain ⟨n, sk, sv, sc, lc, op, bs, vk, vv, ow, rk, th, va, tc, se, si, hn, rfl, rfl, R⟩ := I
  by_cases hs : ml_Kp n v1 ∧ vp_in v2 32
  · obtain ⟨hx, hq⟩ := hs
    obtain ⟨key, hy, rfl⟩ := vp_in_of hq (by decide)
    obtain ⟨s, rfl, h1, h2⟩ := ml_Kp_e (by omega) hx
    have c := R.1 s key h1 h2 hy
    exact xm_at_o hx (by omega) hy (ym_at_o hx (by omega) hy c.1 c.2.2 ⟨c.2.1.symm, J⟩)
  · exact xm_at_n hs (ym_at_n hs ⟨rfl, J⟩)
theorem i_vc_size {k : Nat} {u : SX} {v : SY} (I : i_Rel k u v) (hk : k + 4 ≤ 2048) (v1 : Int32) : wpX_size (fun r => wpY_size (fun r' => r' = r ∧ i_Rel (k + 4) u v) v v1) u v1 := by
  have J := i_up I
  obtain ⟨n, sk, sv, sc, lc, op, bs, vk, vv, ow, rk, th, va, tc, se, si, hn, rfl, rfl, R⟩ := I
  by_cases hx : ml_St n v1
  · by_cases hK : ml_Kp n v1
    · obtain ⟨s, rfl, h1, h2⟩ := ml_Kp_e (by omega) hK
      exact xm_sz_o hK (by omega) (ym_sz_o hK (by omega) (fun j hj => (R.1 s j h1 h2 hj).1) ⟨rfl, J⟩)
    · exact xm_sz_g hx hK (ym_sz_g hx hK ⟨rfl, J⟩)
  · exact xm_sz_b hx (ym_sz_b hx ⟨rfl, J⟩)
theorem i_vc_changed {k : Nat} {u : SX} {v : SY} (I : i_Rel k u v) (hk : k + 4 ≤ 2048) (v1 : Int32) (v2 : Int32) : wpX_changed (fun r => wpY_changed (fun r' => r' = r ∧ i_Rel (k + 4) u v) v v1 v2) u v1 v2 := by
  have J := i_up I
  obtain ⟨n, sk, sv, sc, lc, op, bs, vk, vv, ow, rk, th, va, tc, se, si, hn, rfl, rfl, R⟩ := I
  by_cases hs : ml_St n v1 ∧ ml_St n v2 ∧ v1 < v2
  · by_cases hK : ml_Kp n v1 ∧ ml_Kp n v2
    · obtain ⟨hx, hy⟩ := hK
      have hl := hs.2.2
      obtain ⟨a, rfl, h1, h2⟩ := ml_Kp_e (by omega) hx
      obtain ⟨b, rfl, h3, h4⟩ := ml_Kp_e (by omega) hy
      rw [nI_ltI (by omega) (by omega)] at hl
      refine xm_cd_o (by omega) hl hx hy (ym_cd_o (by omega) hl hx hy ⟨?_, J⟩)
      rw [ml_un_e (a := sc) (b := tc) (p := 8) (q := 6) (s := a) (b - a) (fun j hj => R.2.1 _ (by omega) (by omega))]
    · exact xm_cd_g hs hK (ym_cd_g hs hK ⟨rfl, J⟩)
  · exact xm_cd_x hs (ym_cd_x hs ⟨rfl, J⟩)
