/-! ===== the relation: n states were made; X's arrays sk .. ow, Y's th .. si; the arrays vv, ow are the same function on both sides ===== -/
def ml_R (n : Nat) (sk sv sc lc bs vk vv ow th va tc se si : Nat → Int32) : Prop :=
  (∀ s key, s ≤ n → n < s + 6 → key < 32 → th (32 * (s % 6) + key) = ml_b (bt (sk (s % 8)) key) ∧ sv (s % 8 * 32 + key) = va (32 * (s % 6) + key) ∧ (bt (sk (s % 8)) key = false → va (32 * (s % 6) + key) = 0)) ∧
  (∀ s, s ≤ n → n < s + 6 → sc (s % 8) = tc (s % 6)) ∧
  (∀ t key, t < 4 → key < 32 → se (32 * t + key) = ml_b (bt (vk t) key) ∧ (bt (vk t) key = false → vv (32 * t + key) = 0)) ∧
  (∀ t, t < 4 → bs t ≤ nI n) ∧
  (∀ key, key < 32 → lc key ≤ nI n) ∧
  (∀ t key, t < 4 → key < 32 → (bt (si t) key = true ↔ bs t < lc key)) ∧
  (∀ t, t < 4 → ml_pc (ow t) ≤ 6)
theorem ml_R_0 : ml_R 0 (fun _ => 0) (fun _ => 0) (fun _ => 0) (fun _ => 0) (fun _ => 0) (fun _ => 0) (fun _ => 0) (fun _ => 0) (fun _ => 0) (fun _ => 0) (fun _ => 0) (fun _ => 0) (fun _ => 0) := by
  refine ⟨?_, fun _ _ _ => rfl, ?_, fun _ _ => Int32.le_refl _, fun _ _ => Int32.le_refl _, ?_, ?_⟩
  · intro s key _ _ _
    refine ⟨?_, rfl, fun _ => rfl⟩
    show (0 : Int32) = ml_b (bt 0 key)
    rw [b_0]
    rfl
  · intro t key _ _
    refine ⟨?_, fun _ => rfl⟩
    show (0 : Int32) = ml_b (bt 0 key)
    rw [b_0]
    rfl
  · intro t key _ _
    show bt 0 key = true ↔ (0 : Int32) < 0
    rw [b_0]
    exact ⟨fun h => absurd h (by decide), fun h => absurd h (by decide)⟩
  · intro t _
    show ml_pc 0 ≤ 6
    rw [ml_pc_0]
    omega
theorem ml_R_begin {n : Nat} {sk sv sc lc bs vk vv ow th va tc se si : Nat → Int32} (R : ml_R n sk sv sc lc bs vk vv ow th va tc se si) {t : Nat} (ht : t < 4) :
    ml_R n sk sv sc lc (upd bs t (nI n)) (upd vk t (sk (n % 8))) (ml_cp vv (32 * t) (fun k => va (32 * (n % 6) + k)) 32) (upd ow t 0) th va tc (ml_cp se (32 * t) (fun k => th (32 * (n % 6) + k)) 32) (upd si t 0) := by
  obtain ⟨r1, r2, r3, r4, r5, r6, r7⟩ := R
  refine ⟨r1, r2, ?_, ?_, r5, ?_, ?_⟩
  · intro t' key ht' hk
    by_cases e : t' = t
    · subst e
      have a := r1 n key (Nat.le_refl n) (by omega) hk
      rw [pk_us, ml_cp_in _ _ _ hk, ml_cp_in _ _ _ hk]
      exact ⟨a.1, a.2.2⟩
    · rw [pk_un e, ml_cp_out _ _ _ (by omega), ml_cp_out _ _ _ (by omega)]
      exact r3 t' key ht' hk
  · intro t' h
    by_cases e : t' = t
    · subst e
      rw [pk_us]
      exact Int32.le_refl _
    · rw [pk_un e]
      exact r4 t' h
  · intro t' key h hk
    by_cases e : t' = t
    · subst e
      rw [pk_us, pk_us, b_0]
      exact ⟨fun z => absurd z (by decide), fun z => absurd z (Int32.not_lt.mpr (r5 key hk))⟩
    · rw [pk_un e, pk_un e]
      exact r6 t' key h hk
  · intro t' h
    by_cases e : t' = t
    · subst e
      rw [pk_us, ml_pc_0]
      omega
    · rw [pk_un e]
      exact r7 t' h
theorem ml_R_give {n : Nat} {sk sv sc lc bs vk vv ow th va tc se si : Nat → Int32} (R : ml_R n sk sv sc lc bs vk vv ow th va tc se si) {t key : Nat} (ht : t < 4) (hk : key < 32) (h6 : bt (ow t) key = true ∨ ml_pc (ow t) < 6) {x w : Int32} {b : Bool} (hx : ∀ i, i < 32 → bt x i = if i = key then b else bt (vk t) i) (hw : b = false → w = 0) :
    ml_R n sk sv sc lc bs (upd vk t x) (upd vv (32 * t + key) w) (upd ow t (ow t ||| ((1 : Int32) <<< (nI key &&& 31)))) th va tc (upd se (32 * t + key) (ml_b b)) si := by
  obtain ⟨r1, r2, r3, r4, r5, r6, r7⟩ := R
  refine ⟨r1, r2, ?_, r4, r5, r6, ?_⟩
  · intro t' key' ht' hk'
    by_cases e : t' = t
    · subst e
      rw [pk_us, hx _ hk']
      by_cases e2 : key' = key
      · subst e2
        rw [pk_us, pk_us, if_pos rfl]
        exact ⟨rfl, hw⟩
      · rw [if_neg e2, pk_un (by omega), pk_un (by omega)]
        exact r3 t' key' ht' hk'
    · rw [pk_un e, pk_un (by omega), pk_un (by omega)]
      exact r3 t' key' ht' hk'
  · intro t' h
    by_cases e : t' = t
    · subst e
      rw [pk_us]
      cases hb : bt (ow t') key
      · rw [ml_or_new _ _ hk hb]
        rcases h6 with z | z
        · rw [hb] at z
          exact absurd z (by decide)
        · omega
      · rw [ml_or_old _ _ hk hb]
        exact r7 t' h
    · rw [pk_un e]
      exact r7 t' h
theorem ml_R_commit {n : Nat} {sk sv sc lc bs vk vv ow th va tc se si F G H : Nat → Int32} (R : ml_R n sk sv sc lc bs vk vv ow th va tc se si) (hn : n + 1 < 2 ^ 31) {t : Nat} (ht : t < 4)
    (hF : ∀ k, k < 32 → F k = if bt (ow t) k then vv (32 * t + k) else sv (n % 8 * 32 + k))
    (hG : ∀ k, k < 32 → G k = if bt (ow t) k then se (32 * t + k) else th (32 * (n % 6) + k))
    (hH : ∀ k, k < 32 → H k = if bt (ow t) k then vv (32 * t + k) else va (32 * (n % 6) + k)) :
    ml_R (n + 1) (upd sk ((n + 1) % 8) ((sk (n % 8) &&& (ow t ^^^ (-1))) ||| (vk t &&& ow t))) (ml_cp sv ((n + 1) % 8 * 32) F 32) (upd sc ((n + 1) % 8) (ow t)) (ml_lc lc (ow t) (nI (n + 1)) 32) bs vk vv ow
      (ml_cp th (32 * ((n + 1) % 6)) G 32) (ml_cp va (32 * ((n + 1) % 6)) H 32) (upd tc ((n + 1) % 6) (ow t)) se (ml_or si (ow t) 4) := by
  obtain ⟨r1, r2, r3, r4, r5, r6, r7⟩ := R
  refine ⟨?_, ?_, r3, ?_, ?_, ?_, r7⟩
  · intro s key hs hs' hk
    by_cases e : s = n + 1
    · subst e
      have a := r3 t key ht hk
      have c := r1 n key (Nat.le_refl n) (by omega) hk
      rw [ml_cp_in _ _ _ hk, ml_cp_in _ _ _ hk, ml_cp_in _ _ _ hk, pk_us, hF key hk, hG key hk, hH key hk, ml_mix _ _ _ _ hk]
      cases bt (ow t) key
      · exact c
      · exact ⟨a.1, rfl, a.2⟩
    · have h8 : s % 8 ≠ (n + 1) % 8 := by omega
      have h6 : s % 6 ≠ (n + 1) % 6 := by omega
      rw [ml_cp_out _ _ _ (by omega), ml_cp_out _ _ _ (by omega), ml_cp_out _ _ _ (by omega), pk_un h8]
      exact r1 s key (by omega) (by omega) hk
  · intro s hs hs'
    by_cases e : s = n + 1
    · subst e
      rw [pk_us, pk_us]
    · have h8 : s % 8 ≠ (n + 1) % 8 := by omega
      have h6 : s % 6 ≠ (n + 1) % 6 := by omega
      rw [pk_un h8, pk_un h6]
      exact r2 s (by omega) (by omega)
  · intro t' h
    exact Int32.le_trans (r4 t' h) (nI_le (by omega) hn)
  · intro key hk
    unfold ml_lc
    split
    · exact Int32.le_refl _
    · exact Int32.le_trans (r5 key hk) (nI_le (by omega) hn)
  · intro t' key h hk
    unfold ml_or ml_lc
    rw [if_pos h, b_or]
    cases hb : bt (ow t) key
    · rw [Bool.or_false, if_neg (fun z => absurd z.2 (by decide))]
      exact r6 t' key h hk
    · rw [Bool.or_true, if_pos ⟨hk, rfl⟩]
      exact ⟨fun _ => Int32.lt_of_le_of_lt (r4 t' h) (nI_lt (by omega) hn), fun _ => rfl⟩
/-- what is owed: the relation. k: four cells a turn, at most one new state a turn -/
def i_Rel (k : Nat) (u : SX) (v : SY) : Prop := ∃ (n : Nat) (sk sv sc lc op bs vk vv ow rk th va tc se si : Nat → Int32), 4 * n ≤ k ∧ u = (nI n, sk, sv, sc, lc, op, bs, vk, vv, ow, rk) ∧ v = (nI n, th, va, tc, op, se, vv, ow, rk, si) ∧ ml_R n sk sv sc lc bs vk vv ow th va tc se si
theorem i_up {k : Nat} {u : SX} {v : SY} (h : i_Rel k u v) : i_Rel (k + 4) u v := by
  obtain ⟨n, sk, sv, sc, lc, op, bs, vk, vv, ow, rk, th, va, tc, se, si, hn, hu, hv, R⟩ := h
  exact ⟨n, sk, sv, sc, lc, op, bs, vk, vv, ow, rk, th, va, tc, se, si, by omega, hu, hv, R⟩
theorem i_vc0 : wpX_init (fun u => wpY_init (fun v => i_Rel 0 u v)) := by
  unfold wpX_init wpY_init
  exact ⟨0, _, _, _, _, _, _, _, _, _, _, _, _, _, _, _, Nat.le_refl 0, rfl, rfl, ml_R_0⟩
