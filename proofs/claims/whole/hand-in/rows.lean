section
theorem pk_us {f : Nat → Int32} {k : Nat} {x : Int32} : upd f k x k = x := if_pos rfl
theorem pk_un {f : Nat → Int32} {k j : Nat} {x : Int32} (h : j ≠ k) : upd f k x j = f j := if_neg h
theorem pk_sub {a b : Nat} (h : b ≤ a) : nI a - nI b = nI (a - b) := by
  obtain ⟨c, rfl⟩ : ∃ c, a = c + b := ⟨a - b, by omega⟩
  rw [← nI_add, Int32.add_sub_cancel, Nat.add_sub_cancel]
theorem pk_m1 (n : Nat) : nI (n + 1) + (-1) = nI n := by
  rw [← nI_1, Int32.add_assoc, show (1 : Int32) + (-1) = 0 from rfl, Int32.add_zero]
theorem pk_mul (a b : Nat) : nI a * nI b = nI (a * b) := (Int32.ofNat_mul a b).symm
theorem pk_div {a d : Nat} (ha : a < 2 ^ 31) (h0 : 0 < d) (hd : d < 2 ^ 31) : nI a / nI d = nI (a / d) := by
  apply Int32.toInt_inj.mp
  rw [lg_idiv_nonneg (by rw [nI_toInt ha]; omega) (by rw [nI_toInt hd]; omega), nI_toInt ha, nI_toInt hd, nI_toInt (Nat.lt_of_le_of_lt (Nat.div_le_self a d) ha)]
  first | rfl | exact (Int.natCast_ediv _ _).symm
theorem pk_rem {a d : Nat} (ha : a < 2 ^ 31) (h0 : 0 < d) (hd : d < 2 ^ 31) : nI a - nI a / nI d * nI d = nI (a % d) := by
  rw [pk_div ha h0 hd, pk_mul, pk_sub (Nat.div_mul_le_self a d)]
  exact congrArg nI (by have := Nat.div_add_mod' a d; omega)
theorem pk_sub_toInt {a b : Nat} (ha : a < 2 ^ 30) (hb : b < 2 ^ 30) : (nI a - nI b).toInt = (a : Int) - b := by
  rw [Int32.toInt_sub, nI_toInt (by omega), nI_toInt (by omega)]
  exact Int.bmod_eq_of_le (by omega) (by omega)
theorem pk_sneg {a b : Nat} (hb : b < 2 ^ 30) (h : a < b) : nI a - nI b < 0 := by
  rw [Int32.lt_iff_toInt_lt, pk_sub_toInt (by omega) hb, show (0 : Int32).toInt = 0 from by decide]
  omega
theorem pk_ix (x : Int32) {n : Nat} (hn : n < 2 ^ 31) : x < 0 ∨ nI n ≤ x ∨ ∃ j : Nat, j < n ∧ x = nI j := by
  by_cases h : x < 0
  · exact Or.inl h
  · obtain ⟨j, hj, rfl⟩ := nI_of h
    by_cases h2 : j < n
    · exact Or.inr (Or.inr ⟨j, h2, rfl⟩)
    · exact Or.inr (Or.inl (nI_le (by omega) hj))
theorem pk_le {x y : Int32} {A B : Prop} (a b : Nat) (f : a ≤ b → A) (g : b < a → B) (hx : x = nI a := by rfl) (hy : y = nI b := by rfl) (ha : a < 2 ^ 31 := by omega) (hb : b < 2 ^ 31 := by omega) : (x ≤ y → A) ∧ (¬ x ≤ y → B) := by
  subst hx hy
  rw [nI_leI ha hb]
  exact ⟨f, fun z => g (by omega)⟩
theorem pk_lt {x y : Int32} {A B : Prop} (a b : Nat) (f : a < b → A) (g : b ≤ a → B) (hx : x = nI a := by rfl) (hy : y = nI b := by rfl) (ha : a < 2 ^ 31 := by omega) (hb : b < 2 ^ 31 := by omega) : (x < y → A) ∧ (¬ x < y → B) := by
  subst hx hy
  rw [nI_ltI ha hb]
  exact ⟨f, fun z => g (by omega)⟩
theorem pk_eq {x y : Int32} {A B : Prop} (a b : Nat) (f : a = b → A) (g : a ≠ b → B) (hx : x = nI a := by rfl) (hy : y = nI b := by rfl) (ha : a < 2 ^ 31 := by omega) (hb : b < 2 ^ 31 := by omega) : (x = y → A) ∧ (¬ x = y → B) := by
  subst hx hy
  rw [nI_eq ha hb]
  exact ⟨f, g⟩
theorem pk_in {x : Int32} (n N : Nat) (h : n < N) (hx : x = nI n := by rfl) (hN : N < 2 ^ 31 := by omega) : vp_in x N := by
  subst hx
  exact vp_in_nI h hN
theorem pk_cl {x : Int32} (n : Nat) (hx : x = nI n := by rfl) (h : n < 2 ^ 31 := by omega) : x.toNatClampNeg = n := by
  subst hx
  exact nI_clamp h
theorem pk_tn {n : Nat} (h : n < 2 ^ 32) : (nI n).toBitVec.toNat = n := Nat.mod_eq_of_lt h
theorem pk_and (x : Int32) {m : Int32} (k : Nat) (hm : m.toBitVec.toNat = 2 ^ k - 1) : x &&& m = nI (x.toBitVec.toNat % 2 ^ k) := by
  apply Int32.toBitVec_inj.mp
  apply BitVec.eq_of_toNat_eq
  rw [Int32.toBitVec_and, BitVec.toNat_and, hm, Nat.and_two_pow_sub_one_eq_mod]
  show _ = (BitVec.ofNat 32 _).toNat
  rw [BitVec.toNat_ofNat]
  exact (Nat.mod_eq_of_lt (Nat.lt_of_le_of_lt (Nat.mod_le _ _) x.toBitVec.isLt)).symm
theorem pk_andN {n : Nat} (h : n < 2 ^ 32) {m : Int32} (k : Nat) (hm : m.toBitVec.toNat = 2 ^ k - 1) : nI n &&& m = nI (n % 2 ^ k) := by
  rw [pk_and _ k hm, pk_tn h]
theorem pk_andE (x : Int32) {m : Int32} (k : Nat) (hm : m.toBitVec.toNat = 2 ^ k - 1) : ∃ j : Nat, j < 2 ^ k ∧ x &&& m = nI j := ⟨_, Nat.mod_lt _ (Nat.two_pow_pos k), pk_and x k hm⟩
theorem pk_andIn (x : Int32) {m : Int32} (k : Nat) (hm : m.toBitVec.toNat = 2 ^ k - 1) (hk : k ≤ 30) : vp_in (x &&& m) (2 ^ k) := by
  obtain ⟨j, hj, e⟩ := pk_andE x k hm
  rw [e]
  exact vp_in_nI hj (Nat.lt_of_le_of_lt (Nat.pow_le_pow_right (by decide) hk) (by decide))
/-! ===== Int32 by its bits: bt x i ===== -/
def bt (x : Int32) (i : Nat) : Bool := x.toBitVec.getLsbD i
theorem b_ext {x y : Int32} (h : ∀ i, i < 32 → bt x i = bt y i) : x = y := Int32.toBitVec_inj.mp (BitVec.eq_of_getLsbD_eq (fun i hi => h i hi))
theorem b_or (x y : Int32) (i : Nat) : bt (x ||| y) i = (bt x i || bt y i) := by unfold bt; rw [Int32.toBitVec_or, BitVec.getLsbD_or]
theorem b_and (x y : Int32) (i : Nat) : bt (x &&& y) i = (bt x i && bt y i) := by unfold bt; rw [Int32.toBitVec_and, BitVec.getLsbD_and]
theorem b_xor (x y : Int32) (i : Nat) : bt (x ^^^ y) i = (bt x i ^^ bt y i) := by unfold bt; rw [Int32.toBitVec_xor, BitVec.getLsbD_xor]
theorem b_big {x : Int32} {i : Nat} (h : 32 ≤ i) : bt x i = false := BitVec.getLsbD_of_ge _ _ h
theorem b_255 (i : Nat) : bt 255 i = decide (i < 8) := by
  rcases Nat.lt_or_ge i 32 with h | h
  · exact (by decide +kernel : ∀ i, i < 32 → bt 255 i = decide (i < 8)) i h
  · rw [b_big h, decide_eq_false (by omega)]
theorem b_65535 (i : Nat) : bt 65535 i = decide (i < 16) := by
  rcases Nat.lt_or_ge i 32 with h | h
  · exact (by decide +kernel : ∀ i, i < 32 → bt 65535 i = decide (i < 16)) i h
  · rw [b_big h, decide_eq_false (by omega)]
theorem b_m1 : ∀ i, i < 32 → bt (-1) i = true := by decide +kernel
theorem b_0 (i : Nat) : bt 0 i = false := BitVec.getLsbD_zero
theorem s_l : ∀ n, n < 32 → ((nI n &&& 31).toBitVec.smod 32).toNat = n := by decide +kernel
theorem s_u : ∀ n, n < 32 → (((nI n).toUInt32 &&& Int32.toUInt32 31).toBitVec % 32).toNat = n := by decide +kernel
theorem b_shl (n : Nat) (hn : n < 32) (x : Int32) {i : Nat} (hi : i < 32) : bt (x <<< (nI n &&& 31)) i = (decide (n ≤ i) && bt x (i - n)) := by
  unfold bt
  rw [Int32.toBitVec_shiftLeft]
  show (x.toBitVec <<< ((nI n &&& 31).toBitVec.smod 32).toNat).getLsbD i = _
  rw [s_l n hn, BitVec.getLsbD_shiftLeft]
  rcases Nat.lt_or_ge i n with h | h
  · simp [h, Nat.not_le.mpr h]
  · simp [hi, h, Nat.not_lt.mpr h]
theorem b_ushr (n : Nat) (hn : n < 32) (x : Int32) (i : Nat) : bt ((x.toUInt32 >>> ((nI n).toUInt32 &&& Int32.toUInt32 31)).toInt32) i = bt x (n + i) := by
  show (x.toUInt32 >>> ((nI n).toUInt32 &&& Int32.toUInt32 31)).toBitVec.getLsbD i = x.toUInt32.toBitVec.getLsbD (n + i)
  rw [UInt32.toBitVec_shiftRight]
  show (x.toUInt32.toBitVec >>> (((nI n).toUInt32 &&& Int32.toUInt32 31).toBitVec % 32).toNat).getLsbD i = _
  rw [s_u n hn, BitVec.getLsbD_ushiftRight]
theorem b_sshr (n : Nat) (hn : n < 32) (x : Int32) {i : Nat} (hi : i < 32) : bt (x >>> (nI n &&& 31)) i = if n + i < 32 then bt x (n + i) else bt x 31 := by
  unfold bt
  rw [Int32.toBitVec_shiftRight]
  show (x.toBitVec.sshiftRight ((nI n &&& 31).toBitVec.smod 32).toNat).getLsbD i = _
  rw [s_l n hn, BitVec.getLsbD_sshiftRight, BitVec.msb_eq_getLsbD_last]
  simp [hi]
end
section
/-! ===== booleans as ints, one bit of a set ===== -/
def ml_b (b : Bool) : Int32 := if b then 1 else 0
theorem ml_b0 {b : Bool} : ml_b b = 0 ↔ b = false := by cases b <;> decide
theorem ml_b1 {b : Bool} : ml_b b = 1 ↔ b = true := by cases b <;> decide
theorem ml_bz (b : Bool) : vp_nar .boolean (ml_b b) = ml_b b := by cases b <;> rfl
theorem ml_bn (b : Bool) : narrow .boolean (.int (ml_b b)) = .int (ml_b b) := by cases b <;> rfl
theorem ml_one (i : Nat) : bt 1 i = decide (i = 0) := by
  rcases Nat.lt_or_ge i 32 with h | h
  · exact (by decide +kernel : ∀ i, i < 32 → bt 1 i = decide (i = 0)) i h
  · rw [b_big h, decide_eq_false (by omega)]
theorem ml_bb (b : Bool) (i : Nat) : bt (ml_b b) i = (decide (i = 0) && b) := by
  cases b
  · show bt 0 i = _
    rw [b_0, Bool.and_false]
  · show bt 1 i = _
    rw [ml_one, Bool.and_true]
theorem ml_bit (x : Int32) (k : Nat) (hk : k < 32) : ((x.toUInt32 >>> ((nI k).toUInt32 &&& Int32.toUInt32 31)).toInt32 &&& 1) = ml_b (bt x k) := by
  apply b_ext
  intro i hi
  rw [b_and, b_ushr k hk, ml_one, ml_bb]
  by_cases h : i = 0
  · subst h; simp
  · simp [h]
theorem ml_sh (k : Nat) (hk : k < 32) (i : Nat) (hi : i < 32) : bt ((1 : Int32) <<< (nI k &&& 31)) i = decide (i = k) := by
  rw [b_shl k hk _ hi, ml_one]
  by_cases h : i = k
  · subst h; simp
  · by_cases h2 : k ≤ i
    · have h3 : ¬ (i - k = 0) := by omega
      simp [h, h3]
    · simp [h, h2]
theorem ml_sh0 (k : Nat) (hk : k < 32) (i : Nat) (hi : i < 32) : bt ((0 : Int32) <<< (nI k &&& 31)) i = false := by
  rw [b_shl k hk _ hi, b_0, Bool.and_false]
/-! ===== counting ===== -/
def ml_cnt (f : Nat → Bool) : Nat → Nat
  | 0 => 0
  | i + 1 => ml_cnt f i + (if f i then 1 else 0)
theorem ml_cnt_le (f : Nat → Bool) : ∀ i, ml_cnt f i ≤ i := by
  intro i
  induction i with
  | zero => exact Nat.le_refl 0
  | succ i ih =>
    show ml_cnt f i + (if f i then 1 else 0) ≤ i + 1
    split <;> omega
theorem ml_cnt_c {f g : Nat → Bool} : ∀ m, (∀ j, j < m → f j = g j) → ml_cnt f m = ml_cnt g m := by
  intro m
  induction m with
  | zero => intro _; rfl
  | succ m ih =>
    intro h
    show ml_cnt f m + (if f m then 1 else 0) = ml_cnt g m + (if g m then 1 else 0)
    rw [ih (fun j hj => h j (by omega)), h m (by omega)]
theorem ml_cnt_up {f g : Nat → Bool} {k : Nat} (hf : f k = false) : ∀ m, k < m → (∀ j, j < m → j ≠ k → g j = f j) → ml_cnt g m = ml_cnt f m + (if g k then 1 else 0) := by
  intro m
  induction m with
  | zero => intro h; omega
  | succ m ih =>
    intro h hg
    by_cases e : k = m
    · subst e
      show ml_cnt g k + (if g k then 1 else 0) = ml_cnt f k + (if f k then 1 else 0) + (if g k then 1 else 0)
      rw [hf, ml_cnt_c k (fun j hj => hg j (by omega) (by omega))]
      simp
    · show ml_cnt g m + (if g m then 1 else 0) = ml_cnt f m + (if f m then 1 else 0) + (if g k then 1 else 0)
      rw [ih (by omega) (fun j hj => hg j (by omega)), hg m (by omega) (fun h => e h.symm)]
      generalize (if f m then 1 else 0 : Nat) = p
      generalize (if g k then 1 else 0 : Nat) = q
      omega
def ml_pc (x : Int32) : Nat := ml_cnt (bt x) 32
theorem ml_pc_le (x : Int32) : ml_pc x ≤ 32 := ml_cnt_le _ 32
theorem ml_pc_0 : ml_pc 0 = 0 := by decide +kernel
theorem ml_or_new (x : Int32) (k : Nat) (hk : k < 32) (h : bt x k = false) : ml_pc (x ||| ((1 : Int32) <<< (nI k &&& 31))) = ml_pc x + 1 := by
  unfold ml_pc
  rw [ml_cnt_up (f := bt x) (g := bt (x ||| ((1 : Int32) <<< (nI k &&& 31)))) (k := k) h 32 hk (fun j hj hn => by rw [b_or, ml_sh k hk j hj, decide_eq_false hn, Bool.or_false])]
  rw [b_or, ml_sh k hk k hk]
  simp
theorem ml_or_old (x : Int32) (k : Nat) (hk : k < 32) (h : bt x k = true) : x ||| ((1 : Int32) <<< (nI k &&& 31)) = x := by
  apply b_ext
  intro i hi
  rw [b_or, ml_sh k hk i hi]
  by_cases e : i = k
  · subst e; rw [h]; rfl
  · simp [e]
/-! ===== the keys from lo on ===== -/
def ml_rg (lo : Nat) : Nat → Int32
  | 0 => 0
  | i + 1 => ml_rg lo i ||| ((1 : Int32) <<< (nI (lo + i) &&& 31))
theorem ml_rg_b (lo : Nat) : ∀ i, lo + i ≤ 32 → ∀ j, j < 32 → bt (ml_rg lo i) j = decide (lo ≤ j ∧ j < lo + i) := by
  intro i
  induction i with
  | zero =>
    intro _ j _
    show bt 0 j = _
    rw [b_0, decide_eq_false (by omega)]
  | succ i ih =>
    intro h j hj
    show bt (ml_rg lo i ||| ((1 : Int32) <<< (nI (lo + i) &&& 31))) j = _
    rw [b_or, ih (by omega) j hj, ml_sh (lo + i) (by omega) j hj, ← Bool.decide_or]
    apply decide_eq_decide.mpr
    omega
theorem ml_rg_pc (x : Int32) (lo i : Nat) (h : lo + i < 32) : ml_pc (x &&& ml_rg lo (i + 1)) = ml_pc (x &&& ml_rg lo i) + (if bt x (lo + i) then 1 else 0) := by
  unfold ml_pc
  rw [ml_cnt_up (f := bt (x &&& ml_rg lo i)) (g := bt (x &&& ml_rg lo (i + 1))) (k := lo + i) (by rw [b_and, ml_rg_b lo i (by omega) _ h, decide_eq_false (by omega), Bool.and_false]) 32 h (fun j hj hn => by
    rw [b_and, b_and, ml_rg_b lo i (by omega) _ hj, ml_rg_b lo (i + 1) (by omega) _ hj]
    congr 1
    apply decide_eq_decide.mpr
    omega)]
  rw [b_and, ml_rg_b lo (i + 1) (by omega) _ h, decide_eq_true (by omega), Bool.and_true]
/-! ===== rows copied, sets joined ===== -/
def ml_cp (a : Nat → Int32) (d : Nat) (f : Nat → Int32) (m : Nat) : Nat → Int32 := fun j => if d ≤ j ∧ j < d + m then f (j - d) else a j
theorem ml_cp0 (a : Nat → Int32) (d : Nat) (f : Nat → Int32) : ml_cp a d f 0 = a := by
  funext j
  unfold ml_cp
  rw [if_neg (by omega)]
theorem ml_cpS (a : Nat → Int32) (d : Nat) (f : Nat → Int32) (m : Nat) : upd (ml_cp a d f m) (d + m) (f m) = ml_cp a d f (m + 1) := by
  funext j
  unfold upd ml_cp
  by_cases h : j = d + m
  · subst h
    rw [if_pos rfl, if_pos (by omega), Nat.add_sub_cancel_left]
  · rw [if_neg h]
    by_cases h2 : d ≤ j ∧ j < d + m
    · rw [if_pos h2, if_pos (by omega)]
    · rw [if_neg h2, if_neg (by omega)]
theorem ml_cp_in (a : Nat → Int32) (d : Nat) (f : Nat → Int32) {m i : Nat} (h : i < m) : ml_cp a d f m (d + i) = f i := by
  unfold ml_cp
  rw [if_pos (by omega), Nat.add_sub_cancel_left]
theorem ml_cp_out (a : Nat → Int32) (d : Nat) (f : Nat → Int32) {m j : Nat} (h : j < d ∨ d + m ≤ j) : ml_cp a d f m j = a j := by
  unfold ml_cp
  rw [if_neg (by omega)]
theorem ml_cp_f (a : Nat → Int32) (d : Nat) {f g : Nat → Int32} {m : Nat} (h : ∀ i, i < m → f i = g i) : ml_cp a d f m = ml_cp a d g m := by
  funext j
  unfold ml_cp
  by_cases h2 : d ≤ j ∧ j < d + m
  · rw [if_pos h2, if_pos h2, h _ (by omega)]
  · rw [if_neg h2, if_neg h2]
/-- the last changes after the first m keys of a new state c with the changes w -/
def ml_lc (a : Nat → Int32) (w c : Int32) (m : Nat) : Nat → Int32 := fun j => if j < m ∧ bt w j = true then c else a j
theorem ml_lc0 (a : Nat → Int32) (w c : Int32) : ml_lc a w c 0 = a := by
  funext j
  unfold ml_lc
  rw [if_neg (by omega)]
theorem ml_lcS (a : Nat → Int32) (w c : Int32) (m : Nat) (h : bt w m = true) : upd (ml_lc a w c m) m c = ml_lc a w c (m + 1) := by
  funext j
  unfold upd ml_lc
  by_cases e : j = m
  · subst e
    rw [if_pos rfl, if_pos ⟨Nat.lt_succ_self _, h⟩]
  · rw [if_neg e]
    by_cases h2 : j < m ∧ bt w j = true
    · rw [if_pos h2, if_pos ⟨by omega, h2.2⟩]
    · rw [if_neg h2, if_neg (fun z => h2 ⟨by omega, z.2⟩)]
theorem ml_lcN (a : Nat → Int32) (w c : Int32) (m : Nat) (h : bt w m = false) : ml_lc a w c m = ml_lc a w c (m + 1) := by
  funext j
  unfold ml_lc
  by_cases h2 : j < m ∧ bt w j = true
  · rw [if_pos h2, if_pos ⟨by omega, h2.2⟩]
  · rw [if_neg h2, if_neg (fun z => by
      by_cases e : j = m
      · subst e; rw [h] at z; exact absurd z.2 (by decide)
      · exact h2 ⟨by omega, z.2⟩)]
/-- a set joined to the first m -/
def ml_or (a : Nat → Int32) (w : Int32) (m : Nat) : Nat → Int32 := fun j => if j < m then a j ||| w else a j
theorem ml_or0 (a : Nat → Int32) (w : Int32) : ml_or a w 0 = a := by
  funext j
  unfold ml_or
  rw [if_neg (by omega)]
theorem ml_orS (a : Nat → Int32) (w : Int32) (m : Nat) : upd (ml_or a w m) m (ml_or a w m m ||| w) = ml_or a w (m + 1) := by
  funext j
  unfold upd ml_or
  by_cases e : j = m
  · subst e
    rw [if_pos rfl, if_neg (by omega), if_pos (by omega)]
  · rw [if_neg e]
    by_cases h2 : j < m
    · rw [if_pos h2, if_pos (by omega)]
    · rw [if_neg h2, if_neg (by omega)]
/-- the changes of the states s + 1 to s + m, out of slots of p -/
def ml_un (a : Nat → Int32) (p s : Nat) : Nat → Int32
  | 0 => 0
  | m + 1 => ml_un a p s m ||| a ((s + m + 1) % p)
theorem ml_un_e {a b : Nat → Int32} {p q s : Nat} : ∀ m, (∀ j, j < m → a ((s + j + 1) % p) = b ((s + j + 1) % q)) → ml_un a p s m = ml_un b q s m := by
  intro m
  induction m with
  | zero => intro _; rfl
  | succ m ih =>
    intro h
    show ml_un a p s m ||| a ((s + m + 1) % p) = ml_un b q s m ||| b ((s + m + 1) % q)
    rw [ih (fun j hj => h j (by omega)), h m (by omega)]
theorem ml_uu (a : Nat → Int32) (k : Nat) (x y : Int32) : upd (upd a k x) k y = upd a k y := by
  funext j
  unfold upd
  by_cases e : j = k
  · rw [if_pos e, if_pos e]
  · rw [if_neg e, if_neg e, if_neg e]
theorem ml_us (a : Nat → Int32) (k : Nat) : upd a k (a k) = a := by
  funext j
  unfold upd
  by_cases e : j = k
  · rw [if_pos e, e]
  · rw [if_neg e]
/-- two sets meet or do not -/
theorem ml_meet (x y : Int32) : x &&& y = 0 ↔ ∀ k, k < 32 → ¬ (bt x k = true ∧ bt y k = true) := by
  constructor
  · intro h k _ z
    have e := b_and x y k
    rw [h, b_0, z.1, z.2] at e
    exact absurd e (by decide)
  · intro h
    apply b_ext
    intro i hi
    rw [b_and, b_0]
    have := h i hi
    cases hx : bt x i <;> cases hy : bt y i <;> first | rfl | exact absurd ⟨hx, hy⟩ this
/-- a change of one key: (x & ~bit) | (p << k) -/
theorem ml_put1 (x : Int32) (k : Nat) (hk : k < 32) (i : Nat) (hi : i < 32) : bt ((x &&& (((1 : Int32) <<< (nI k &&& 31)) ^^^ (-1))) ||| ((1 : Int32) <<< (nI k &&& 31))) i = if i = k then true else bt x i := by
  rw [b_or, b_and, b_xor, ml_sh k hk i hi, b_m1 i hi]
  by_cases e : i = k
  · simp [e]
  · simp [e]
theorem ml_put0 (x : Int32) (k : Nat) (hk : k < 32) (i : Nat) (hi : i < 32) : bt ((x &&& (((1 : Int32) <<< (nI k &&& 31)) ^^^ (-1))) ||| ((0 : Int32) <<< (nI k &&& 31))) i = if i = k then false else bt x i := by
  rw [b_or, b_and, b_xor, ml_sh k hk i hi, ml_sh0 k hk i hi, b_m1 i hi]
  by_cases e : i = k
  · simp [e]
  · simp [e]
/-- keys of the new state: (x & ~w) | (y & w) -/
theorem ml_mix (x y w : Int32) (i : Nat) (hi : i < 32) : bt ((x &&& (w ^^^ (-1))) ||| (y &&& w)) i = if bt w i then bt y i else bt x i := by
  rw [b_or, b_and, b_and, b_xor, b_m1 i hi]
  cases bt w i <;> cases bt x i <;> cases bt y i <;> rfl
/-- a state's slots -/
theorem ml_and7 (n : Nat) (h : n < 2 ^ 31) : nI n &&& 7 = nI (n % 8) := pk_andN (by omega) 3 (by decide)
theorem ml_rem6 (n : Nat) (h : n < 2 ^ 31) : nI n - nI n / 6 * 6 = nI (n % 6) := pk_rem (d := 6) h (by decide) (by decide)
end
section
/-! ===== the relation: n states were made; X's arrays sk .. ow, Y's th .. si; the arrays vv, ow are the same function on both sides ===== -/
def ml_R (n : Nat) (sk sv sc lc bs vk vv ow th va tc se si : Nat → Int32) : Prop :=
  (∀ s key, s ≤ n → n < s + 6 → key < 32 → th (32 * (s % 6) + key) = ml_b (bt (sk (s % 8)) key) ∧ sv (s % 8 * 32 + key) = va (32 * (s % 6) + key) ∧ (bt (sk (s % 8)) key = false → va (32 * (s % 6) + key) = 0)) ∧
  (∀ s, s ≤ n → n < s + 6 → sc (s % 8) = tc (s % 6)) ∧
  (∀ t key, t < 4 → key < 32 → se (32 * t + key) = ml_b (bt (vk t) key) ∧ (bt (vk t) key = false → vv (32 * t + key) = 0)) ∧
  (∀ t, t < 4 → bs t ≤ nI n) ∧
  (∀ key, key < 32 → lc key ≤ nI n) ∧
  (∀ t key, t < 4 → key < 32 → (bt (si t) key = true ↔ bs t < lc key)) ∧
  (∀ t, t < 4 → ml_pc (ow t) ≤ 6)
theorem ml_R_0 : ml_R 0 (fun _ => 0) (fun _ => 0) (fun _ => 0) (fun _ => 0) (fun _ => 0) (fun _ => 0) (fun _ => 0) (fun _ => 0) (fun _ => 0) (fun _ => 0) (fun _ => 0) (fun _ => 0) (fun _ => 0) := by
  refine ⟨?_, fun _ _ _ => rfl, ?_, fun _ _ => Int32.le_refl _, fun _ _ => Int32.le_refl _, ?_, ?_⟩
  · intro s key _ _ _
    refine ⟨?_, rfl, fun _ => rfl⟩
    show (0 : Int32) = ml_b (bt 0 key)
    rw [b_0]
    rfl
  · intro t key _ _
    refine ⟨?_, fun _ => rfl⟩
    show (0 : Int32) = ml_b (bt 0 key)
    rw [b_0]
    rfl
  · intro t key _ _
    show bt 0 key = true ↔ (0 : Int32) < 0
    rw [b_0]
    exact ⟨fun h => absurd h (by decide), fun h => absurd h (by decide)⟩
  · intro t _
    show ml_pc 0 ≤ 6
    rw [ml_pc_0]
    omega
theorem ml_R_begin {n : Nat} {sk sv sc lc bs vk vv ow th va tc se si : Nat → Int32} (R : ml_R n sk sv sc lc bs vk vv ow th va tc se si) {t : Nat} (ht : t < 4) :
    ml_R n sk sv sc lc (upd bs t (nI n)) (upd vk t (sk (n % 8))) (ml_cp vv (32 * t) (fun k => va (32 * (n % 6) + k)) 32) (upd ow t 0) th va tc (ml_cp se (32 * t) (fun k => th (32 * (n % 6) + k)) 32) (upd si t 0) := by
  obtain ⟨r1, r2, r3, r4, r5, r6, r7⟩ := R
  refine ⟨r1, r2, ?_, ?_, r5, ?_, ?_⟩
  · intro t' key ht' hk
    by_cases e : t' = t
    · subst e
      have a := r1 n key (Nat.le_refl n) (by omega) hk
      rw [pk_us, ml_cp_in _ _ _ hk, ml_cp_in _ _ _ hk]
      exact ⟨a.1, a.2.2⟩
    · rw [pk_un e, ml_cp_out _ _ _ (by omega), ml_cp_out _ _ _ (by omega)]
      exact r3 t' key ht' hk
  · intro t' h
    by_cases e : t' = t
    · subst e
      rw [pk_us]
      exact Int32.le_refl _
    · rw [pk_un e]
      exact r4 t' h
  · intro t' key h hk
    by_cases e : t' = t
    · subst e
      rw [pk_us, pk_us, b_0]
      exact ⟨fun z => absurd z (by decide), fun z => absurd z (Int32.not_lt.mpr (r5 key hk))⟩
    · rw [pk_un e, pk_un e]
      exact r6 t' key h hk
  · intro t' h
    by_cases e : t' = t
    · subst e
      rw [pk_us, ml_pc_0]
      omega
    · rw [pk_un e]
      exact r7 t' h
theorem ml_R_give {n : Nat} {sk sv sc lc bs vk vv ow th va tc se si : Nat → Int32} (R : ml_R n sk sv sc lc bs vk vv ow th va tc se si) {t key : Nat} (ht : t < 4) (hk : key < 32) (h6 : bt (ow t) key = true ∨ ml_pc (ow t) < 6) {x w : Int32} {b : Bool} (hx : ∀ i, i < 32 → bt x i = if i = key then b else bt (vk t) i) (hw : b = false → w = 0) :
    ml_R n sk sv sc lc bs (upd vk t x) (upd vv (32 * t + key) w) (upd ow t (ow t ||| ((1 : Int32) <<< (nI key &&& 31)))) th va tc (upd se (32 * t + key) (ml_b b)) si := by
  obtain ⟨r1, r2, r3, r4, r5, r6, r7⟩ := R
  refine ⟨r1, r2, ?_, r4, r5, r6, ?_⟩
  · intro t' key' ht' hk'
    by_cases e : t' = t
    · subst e
      rw [pk_us, hx _ hk']
      by_cases e2 : key' = key
      · subst e2
        rw [pk_us, pk_us, if_pos rfl]
        exact ⟨rfl, hw⟩
      · rw [if_neg e2, pk_un (by omega), pk_un (by omega)]
        exact r3 t' key' ht' hk'
    · rw [pk_un e, pk_un (by omega), pk_un (by omega)]
      exact r3 t' key' ht' hk'
  · intro t' h
    by_cases e : t' = t
    · subst e
      rw [pk_us]
      cases hb : bt (ow t') key
      · rw [ml_or_new _ _ hk hb]
        rcases h6 with z | z
        · rw [hb] at z
          exact absurd z (by decide)
        · omega
      · rw [ml_or_old _ _ hk hb]
        exact r7 t' h
    · rw [pk_un e]
      exact r7 t' h
theorem ml_R_commit {n : Nat} {sk sv sc lc bs vk vv ow th va tc se si F G H : Nat → Int32} (R : ml_R n sk sv sc lc bs vk vv ow th va tc se si) (hn : n + 1 < 2 ^ 31) {t : Nat} (ht : t < 4)
    (hF : ∀ k, k < 32 → F k = if bt (ow t) k then vv (32 * t + k) else sv (n % 8 * 32 + k))
    (hG : ∀ k, k < 32 → G k = if bt (ow t) k then se (32 * t + k) else th (32 * (n % 6) + k))
    (hH : ∀ k, k < 32 → H k = if bt (ow t) k then vv (32 * t + k) else va (32 * (n % 6) + k)) :
    ml_R (n + 1) (upd sk ((n + 1) % 8) ((sk (n % 8) &&& (ow t ^^^ (-1))) ||| (vk t &&& ow t))) (ml_cp sv ((n + 1) % 8 * 32) F 32) (upd sc ((n + 1) % 8) (ow t)) (ml_lc lc (ow t) (nI (n + 1)) 32) bs vk vv ow
      (ml_cp th (32 * ((n + 1) % 6)) G 32) (ml_cp va (32 * ((n + 1) % 6)) H 32) (upd tc ((n + 1) % 6) (ow t)) se (ml_or si (ow t) 4) := by
  obtain ⟨r1, r2, r3, r4, r5, r6, r7⟩ := R
  refine ⟨?_, ?_, r3, ?_, ?_, ?_, r7⟩
  · intro s key hs hs' hk
    by_cases e : s = n + 1
    · subst e
      have a := r3 t key ht hk
      have c := r1 n key (Nat.le_refl n) (by omega) hk
      rw [ml_cp_in _ _ _ hk, ml_cp_in _ _ _ hk, ml_cp_in _ _ _ hk, pk_us, hF key hk, hG key hk, hH key hk, ml_mix _ _ _ _ hk]
      cases bt (ow t) key
      · exact c
      · exact ⟨a.1, rfl, a.2⟩
    · have h8 : s % 8 ≠ (n + 1) % 8 := by omega
      have h6 : s % 6 ≠ (n + 1) % 6 := by omega
      rw [ml_cp_out _ _ _ (by omega), ml_cp_out _ _ _ (by omega), ml_cp_out _ _ _ (by omega), pk_un h8]
      exact r1 s key (by omega) (by omega) hk
  · intro s hs hs'
    by_cases e : s = n + 1
    · subst e
      rw [pk_us, pk_us]
    · have h8 : s % 8 ≠ (n + 1) % 8 := by omega
      have h6 : s % 6 ≠ (n + 1) % 6 := by omega
      rw [pk_un h8, pk_un h6]
      exact r2 s (by omega) (by omega)
  · intro t' h
    exact Int32.le_trans (r4 t' h) (nI_le (by omega) hn)
  · intro key hk
    unfold ml_lc
    split
    · exact Int32.le_refl _
    · exact Int32.le_trans (r5 key hk) (nI_le (by omega) hn)
  · intro t' key h hk
    unfold ml_or ml_lc
    rw [if_pos h, b_or]
    cases hb : bt (ow t) key
    · rw [Bool.or_false, if_neg (fun z => absurd z.2 (by decide))]
      exact r6 t' key h hk
    · rw [Bool.or_true, if_pos ⟨hk, rfl⟩]
      exact ⟨fun _ => Int32.lt_of_le_of_lt (r4 t' h) (nI_lt (by omega) hn), fun _ => rfl⟩
/-- what is owed: the relation. k: four cells a turn, at most one new state a turn -/
def i_Rel (k : Nat) (u : SX) (v : SY) : Prop := ∃ (n : Nat) (sk sv sc lc op bs vk vv ow rk th va tc se si : Nat → Int32), 4 * n ≤ k ∧ u = (nI n, sk, sv, sc, lc, op, bs, vk, vv, ow, rk) ∧ v = (nI n, th, va, tc, op, se, vv, ow, rk, si) ∧ ml_R n sk sv sc lc bs vk vv ow th va tc se si
theorem i_up {k : Nat} {u : SX} {v : SY} (h : i_Rel k u v) : i_Rel (k + 4) u v := by
  obtain ⟨n, sk, sv, sc, lc, op, bs, vk, vv, ow, rk, th, va, tc, se, si, hn, hu, hv, R⟩ := h
  exact ⟨n, sk, sv, sc, lc, op, bs, vk, vv, ow, rk, th, va, tc, se, si, by omega, hu, hv, R⟩
theorem i_vc0 : wpX_init (fun u => wpY_init (fun v => i_Rel 0 u v)) := by
  unfold wpX_init wpY_init
  exact ⟨0, _, _, _, _, _, _, _, _, _, _, _, _, _, _, _, Nat.le_refl 0, rfl, rfl, ml_R_0⟩
end
section
/-! ===== small methods of both sides, each with a general post ===== -/
theorem ml_32 : (32 : Int32) ≤ nI 32 := by decide +kernel
theorem ml_l32 {i : Nat} (h : i < 32) : ¬ (32 : Int32) ≤ nI i := nI_ge (b := 32) h (by decide)
theorem ml_10 : ¬ (1 : Int32) = 0 := by decide
theorem ml_60 : ¬ (6 : Int32) = 0 := by decide
theorem ml_in4 {x : Int32} (h : vp_in x 4) : ¬ x < 0 ∧ ¬ 4 ≤ x ∧ ¬ 3 < x := by
  rw [vp_in_iff] at h
  have h0 : (0 : Int32).toInt = 0 := by decide
  have h3 : (3 : Int32).toInt = 3 := by decide
  have h4 : (4 : Int32).toInt = 4 := by decide
  rw [Int32.lt_iff_toInt_lt, Int32.le_iff_toInt_le, Int32.lt_iff_toInt_lt]
  omega
theorem ml_out4 {x : Int32} (h : ¬ vp_in x 4) : x < 0 ∨ (¬ x < 0 ∧ 4 ≤ x ∧ 3 < x) := by
  rw [vp_in_iff] at h
  have h0 : (0 : Int32).toInt = 0 := by decide
  have h3 : (3 : Int32).toInt = 3 := by decide
  have h4 : (4 : Int32).toInt = 4 := by decide
  rw [Int32.lt_iff_toInt_lt, Int32.le_iff_toInt_le, Int32.lt_iff_toInt_lt]
  omega
theorem ml_in32 {x : Int32} (h : vp_in x 32) : ¬ x < 0 ∧ ¬ 32 ≤ x ∧ ¬ 31 < x := by
  rw [vp_in_iff] at h
  have h0 : (0 : Int32).toInt = 0 := by decide
  have h3 : (31 : Int32).toInt = 31 := by decide
  have h4 : (32 : Int32).toInt = 32 := by decide
  rw [Int32.lt_iff_toInt_lt, Int32.le_iff_toInt_le, Int32.lt_iff_toInt_lt]
  omega
theorem ml_out32 {x : Int32} (h : ¬ vp_in x 32) : x < 0 ∨ (¬ x < 0 ∧ 32 ≤ x ∧ 31 < x) := by
  rw [vp_in_iff] at h
  have h0 : (0 : Int32).toInt = 0 := by decide
  have h3 : (31 : Int32).toInt = 31 := by decide
  have h4 : (32 : Int32).toInt = 32 := by decide
  rw [Int32.lt_iff_toInt_lt, Int32.le_iff_toInt_le, Int32.lt_iff_toInt_lt]
  omega
theorem ml_p4 {p : Int32} (hp : vp_in p 4) : p.toNatClampNeg < 4 := by
  obtain ⟨t, ht, rfl⟩ := vp_in_of hp (by decide)
  rw [nI_clamp (by omega)]
  exact ht
/-! cells: the view's (4 times 32), X's states (8 times 32), Y's (6 times 32) -/
theorem ml_vx {p : Int32} (hp : vp_in p 4) {k : Nat} (hk : k < 32) : (p * 32 + nI k).toNatClampNeg = 32 * p.toNatClampNeg + k ∧ vp_in (p * 32 + nI k) 128 := by
  obtain ⟨t, ht, rfl⟩ := vp_in_of hp (by decide)
  have e : nI t * 32 + nI k = nI (32 * t + k) := by
    show nI t * nI 32 + nI k = _
    rw [pk_mul, nI_add, Nat.mul_comm]
  rw [e, nI_clamp (by omega), nI_clamp (by omega)]
  exact ⟨rfl, vp_in_nI (by omega) (by decide)⟩
theorem ml_vy {p : Int32} (hp : vp_in p 4) {k : Nat} (hk : k < 32) : (32 * p + nI k).toNatClampNeg = 32 * p.toNatClampNeg + k ∧ vp_in (32 * p + nI k) 128 := by
  rw [Int32.mul_comm]
  exact ml_vx hp hk
theorem ml_sx {s : Nat} (hs : s < 8) {k : Nat} (hk : k < 32) : (nI s * 32 + nI k).toNatClampNeg = s * 32 + k ∧ vp_in (nI s * 32 + nI k) 256 := by
  have e : nI s * 32 + nI k = nI (s * 32 + k) := by
    show nI s * nI 32 + nI k = _
    rw [pk_mul, nI_add]
  rw [e, nI_clamp (by omega)]
  exact ⟨rfl, vp_in_nI (by omega) (by decide)⟩
theorem ml_sy {s : Nat} (hs : s < 6) {k : Nat} (hk : k < 32) : (32 * nI s + nI k).toNatClampNeg = 32 * s + k ∧ vp_in (32 * nI s + nI k) 192 := by
  have e : 32 * nI s + nI k = nI (32 * s + k) := by
    show nI 32 * nI s + nI k = _
    rw [pk_mul, nI_add]
  rw [e, nI_clamp (by omega)]
  exact ⟨rfl, vp_in_nI (by omega) (by decide)⟩
section
variable {post : Int32 → Prop} {N : Int32} {sk sv sc lc op bs vk vv ow rk th va tc se si : Nat → Int32} {p q x : Int32}
theorem xm_tr_t (hp : vp_in p 4) (h : post 1) : wpX_isTransaction post p := br_f (ml_in4 hp).1 (br_f (ml_in4 hp).2.1 h)
theorem xm_tr_f (hp : ¬ vp_in p 4) (h : post 0) : wpX_isTransaction post p := by
  rcases ml_out4 hp with z | z
  · exact br_t z h
  · exact br_f z.1 (br_t z.2.1 h)
theorem ym_tr_t (hp : vp_in p 4) (h : post 1) : wpY_isTransaction post (N, th, va, tc, op, se, vv, ow, rk, si) p := br_f (ml_in4 hp).1 (br_f (ml_in4 hp).2.2 h)
theorem ym_tr_f (hp : ¬ vp_in p 4) (h : post 0) : wpY_isTransaction post (N, th, va, tc, op, se, vv, ow, rk, si) p := by
  rcases ml_out4 hp with z | z
  · exact br_t z h
  · exact br_f z.1 (br_t z.2.2 h)
theorem xm_ky_t (hp : vp_in p 32) (h : post 1) : wpX_isKey post p := br_f (ml_in32 hp).1 (br_f (ml_in32 hp).2.1 h)
theorem xm_ky_f (hp : ¬ vp_in p 32) (h : post 0) : wpX_isKey post p := by
  rcases ml_out32 hp with z | z
  · exact br_t z h
  · exact br_f z.1 (br_t z.2.1 h)
theorem ym_ky_t (hp : vp_in p 32) (h : post 1) : wpY_isKey post (N, th, va, tc, op, se, vv, ow, rk, si) p := br_f (ml_in32 hp).1 (br_f (ml_in32 hp).2.2 h)
theorem ym_ky_f (hp : ¬ vp_in p 32) (h : post 0) : wpY_isKey post (N, th, va, tc, op, se, vv, ow, rk, si) p := by
  rcases ml_out32 hp with z | z
  · exact br_t z h
  · exact br_f z.1 (br_t z.2.2 h)
theorem xm_slot {n : Nat} (hn : n < 2 ^ 31) (h : post (nI (n % 8))) : wpX_slotOf post (nI n) := by
  unfold wpX_slotOf
  rw [ml_and7 n hn]
  exact h
theorem xm_hold {k : Nat} (hk : k < 32) (h : post (ml_b (bt x k))) : wpX_holds post x (nI k) := by
  unfold wpX_holds
  rw [ml_bit x k hk]
  cases hb : bt x k
  · rw [hb] at h
    exact br_t rfl h
  · rw [hb] at h
    exact br_f (by decide) h
theorem ym_in {k : Nat} (hk : k < 32) (h : post (ml_b (bt x k))) : wpY_in post (N, th, va, tc, op, se, vv, ow, rk, si) x (nI k) := by
  unfold wpY_in
  dsimp only
  rw [ml_bit x k hk]
  cases hb : bt x k
  · rw [hb] at h
    exact br_f (by decide) h
  · rw [hb] at h
    exact br_t rfl h
theorem ml_add (c : Nat) (b : Bool) : nI c + ml_b b = nI (c + (if b then 1 else 0)) := by
  cases b
  · exact Int32.add_zero _
  · exact nI_1 c
theorem xm_ckL : ∀ d i, i + d = 32 → post (nI (ml_pc x)) → wX_countKeys_4 post x (d + 1) (nI (ml_cnt (bt x) i)) (nI i) := by
  intro d
  induction d with
  | zero =>
    intro i hi h
    obtain rfl : i = 32 := by omega
    exact br_t ml_32 h
  | succ d ih =>
    intro i hi h
    have hl : i < 32 := by omega
    exact br_f (ml_l32 hl) (nm_r (e' := nI (ml_cnt (bt x) (i + 1))) (by rw [ml_bit x i hl]; exact ml_add _ _) (nm_r (nI_1 i) (ih (i + 1) (by omega) h)))
theorem xm_ck (h : post (nI (ml_pc x))) : wpX_countKeys post x := ⟨33, xm_ckL 32 0 rfl h⟩
theorem ym_ckL : ∀ d i, i + d = 32 → post (nI (ml_pc x)) → wY_sizeOf_4 post x N th va tc op se vv ow rk si (d + 1) (nI (ml_cnt (bt x) i)) (nI i) := by
  intro d
  induction d with
  | zero =>
    intro i hi h
    obtain rfl : i = 32 := by omega
    exact br_t ml_32 h
  | succ d ih =>
    intro i hi h
    have hl : i < 32 := by omega
    refine br_f (ml_l32 hl) (ym_in hl ?_)
    have g := ih (i + 1) (by omega) h
    have e : ml_cnt (bt x) (i + 1) = ml_cnt (bt x) i + (if bt x i then 1 else 0) := rfl
    cases hb : bt x i
    · rw [e, hb] at g
      exact br_t rfl (nm_r (nI_1 i) g)
    · rw [e, hb] at g
      exact br_f (by decide) (nm_r (nI_1 _) (nm_r (nI_1 i) g))
theorem ym_ck (h : post (nI (ml_pc x))) : wpY_sizeOf post (N, th, va, tc, op, se, vv, ow, rk, si) x := ⟨33, ym_ckL 32 0 rfl h⟩
theorem xm_rt_b (hp : ¬ vp_in p 4) (h : post (-1)) : wpX_refuseTransaction post (N, sk, sv, sc, lc, op, bs, vk, vv, ow, rk) p := by
  unfold wpX_refuseTransaction
  exact xm_tr_f hp (br_t rfl h)
theorem xm_rt_c (hp : vp_in p 4) (ho : op p.toNatClampNeg = 0) (h : post (-3)) : wpX_refuseTransaction post (N, sk, sv, sc, lc, op, bs, vk, vv, ow, rk) p := by
  unfold wpX_refuseTransaction
  exact xm_tr_t hp (br_f ml_10 ⟨hp, br_t ho h⟩)
theorem xm_rt_o (hp : vp_in p 4) (ho : ¬ op p.toNatClampNeg = 0) (h : post 0) : wpX_refuseTransaction post (N, sk, sv, sc, lc, op, bs, vk, vv, ow, rk) p := by
  unfold wpX_refuseTransaction
  exact xm_tr_t hp (br_f ml_10 ⟨hp, br_f ho h⟩)
theorem xm_rk_k (hq : ¬ vp_in q 32) (h : post (-1)) : wpX_refuseKey post (N, sk, sv, sc, lc, op, bs, vk, vv, ow, rk) p q := by
  unfold wpX_refuseKey
  exact xm_ky_f hq (br_t rfl h)
theorem xm_rk_b (hp : ¬ vp_in p 4) (h : post (-1)) : wpX_refuseKey post (N, sk, sv, sc, lc, op, bs, vk, vv, ow, rk) p q := by
  by_cases hq : vp_in q 32
  · unfold wpX_refuseKey
    exact xm_ky_t hq (br_f ml_10 (xm_rt_b hp h))
  · exact xm_rk_k hq h
theorem xm_rk_c (hq : vp_in q 32) (hp : vp_in p 4) (ho : op p.toNatClampNeg = 0) (h : post (-3)) : wpX_refuseKey post (N, sk, sv, sc, lc, op, bs, vk, vv, ow, rk) p q := by
  unfold wpX_refuseKey
  exact xm_ky_t hq (br_f ml_10 (xm_rt_c hp ho h))
theorem xm_rk_o (hq : vp_in q 32) (hp : vp_in p 4) (ho : ¬ op p.toNatClampNeg = 0) (h : post 0) : wpX_refuseKey post (N, sk, sv, sc, lc, op, bs, vk, vv, ow, rk) p q := by
  unfold wpX_refuseKey
  exact xm_ky_t hq (br_f ml_10 (xm_rt_o hp ho h))
end
end
section
/-! ===== X: begin, write, erase, read, peek, countRange, abort ===== -/
section
variable {N : Int32} {sk sv sc lc op bs vk vv ow rk : Nat → Int32} {p q x y : Int32}
theorem xm_cp {post : SX → Prop} (hp : vp_in p 4) {s : Nat} (hs : s < 8) (h : post (N, sk, sv, sc, lc, op, bs, vk, ml_cp vv (32 * p.toNatClampNeg) (fun k => sv (s * 32 + k)) 32, ow, rk)) : ∀ d i, i + d = 32 → wX_copyNewestToView_22 post p (nI s) N (d + 1) (nI i) sk sv sc lc op bs vk (ml_cp vv (32 * p.toNatClampNeg) (fun k => sv (s * 32 + k)) i) ow rk := by
  intro d
  induction d with
  | zero =>
    intro i hi
    obtain rfl : i = 32 := by omega
    exact br_t ml_32 h
  | succ d ih =>
    intro i hi
    have hl : i < 32 := by omega
    exact br_f (ml_l32 hl) ⟨(ml_sx hs hl).2, (ml_vx hp hl).2, nm_r (e' := ml_cp vv (32 * p.toNatClampNeg) (fun k => sv (s * 32 + k)) (i + 1)) (by rw [(ml_vx hp hl).1, (ml_sx hs hl).1]; exact ml_cpS _ _ (fun k => sv (s * 32 + k)) _) (nm_r (nI_1 i) (ih (i + 1) (by omega)))⟩
theorem xm_copy {post : SX → Prop} {n : Nat} (hn : n < 2 ^ 31) (hp : vp_in p 4) (h : post (nI n, sk, sv, sc, lc, op, bs, upd vk p.toNatClampNeg (sk (n % 8)), ml_cp vv (32 * p.toNatClampNeg) (fun k => sv (n % 8 * 32 + k)) 32, ow, rk)) : wpX_copyNewestToView post (nI n, sk, sv, sc, lc, op, bs, vk, vv, ow, rk) p := by
  have h8 : n % 8 < 8 := Nat.mod_lt _ (by decide)
  unfold wpX_copyNewestToView
  refine xm_slot hn ⟨vp_in_nI h8 (by decide), hp, nm_r (e' := upd vk p.toNatClampNeg (sk (n % 8))) (by rw [nI_clamp (by omega)]) ⟨33, ?_⟩⟩
  have g := xm_cp (post := post) (N := nI n) (vk := upd vk p.toNatClampNeg (sk (n % 8))) hp h8 h 32 0 rfl
  rw [ml_cp0] at g
  exact g
theorem xm_begin_b {post : Int32 → SX → Prop} (hp : ¬ vp_in p 4) (h : post (-1) (N, sk, sv, sc, lc, op, bs, vk, vv, ow, rk)) : wpX_begin post (N, sk, sv, sc, lc, op, bs, vk, vv, ow, rk) p := by
  unfold wpX_begin
  exact xm_tr_f hp (br_t rfl h)
theorem xm_begin_o {post : Int32 → SX → Prop} (hp : vp_in p 4) (ho : ¬ op p.toNatClampNeg = 0) (h : post (-2) (N, sk, sv, sc, lc, op, bs, vk, vv, ow, rk)) : wpX_begin post (N, sk, sv, sc, lc, op, bs, vk, vv, ow, rk) p := by
  unfold wpX_begin
  exact xm_tr_t hp (br_f ml_10 ⟨hp, br_f ho h⟩)
theorem xm_begin {post : Int32 → SX → Prop} {n : Nat} (hn : n < 2 ^ 31) (hp : vp_in p 4) (ho : op p.toNatClampNeg = 0) (h : post (nI n) (nI n, sk, sv, sc, lc, upd op p.toNatClampNeg (vp_nar .boolean 1), upd bs p.toNatClampNeg (nI n), upd vk p.toNatClampNeg (sk (n % 8)), ml_cp vv (32 * p.toNatClampNeg) (fun k => sv (n % 8 * 32 + k)) 32, upd ow p.toNatClampNeg 0, upd rk p.toNatClampNeg 0)) : wpX_begin post (nI n, sk, sv, sc, lc, op, bs, vk, vv, ow, rk) p := by
  unfold wpX_begin
  refine xm_tr_t hp (br_f ml_10 ⟨hp, br_t ho ⟨hp, nm_e ⟨hp, nm_e ⟨hp, nm_e ⟨hp, nm_e ?_⟩⟩⟩⟩⟩)
  exact xm_copy hn hp h
/-! refuseChange, change -/
theorem xm_rc_n {post : Int32 → Prop} {r : Int32} (hr : ¬ r = 0) (hw : ∀ P : Int32 → Prop, P r → wpX_refuseKey P (N, sk, sv, sc, lc, op, bs, vk, vv, ow, rk) p q) (h : post r) : wpX_refuseChange post (N, sk, sv, sc, lc, op, bs, vk, vv, ow, rk) p q := by
  unfold wpX_refuseChange
  exact hw _ (br_f hr h)
theorem xm_rc_f {post : Int32 → Prop} {k : Nat} (hk : k < 32) (hp : vp_in p 4) (ho : ¬ op p.toNatClampNeg = 0) (hb : bt (ow p.toNatClampNeg) k = false) (hc : 6 ≤ ml_pc (ow p.toNatClampNeg)) (h : post (-4)) : wpX_refuseChange post (N, sk, sv, sc, lc, op, bs, vk, vv, ow, rk) p (nI k) := by
  unfold wpX_refuseChange
  refine xm_rk_o (vp_in_nI hk (by decide)) hp ho (br_t rfl ⟨hp, xm_hold hk ?_⟩)
  rw [hb]
  refine br_t rfl ⟨hp, xm_ck (br_t ?_ h)⟩
  exact nI_le (a := 6) hc (by have := ml_pc_le (ow p.toNatClampNeg); omega)
theorem xm_rc_o {post : Int32 → Prop} {k : Nat} (hk : k < 32) (hp : vp_in p 4) (ho : ¬ op p.toNatClampNeg = 0) (hb : bt (ow p.toNatClampNeg) k = true ∨ ml_pc (ow p.toNatClampNeg) < 6) (h : post 0) : wpX_refuseChange post (N, sk, sv, sc, lc, op, bs, vk, vv, ow, rk) p (nI k) := by
  unfold wpX_refuseChange
  refine xm_rk_o (vp_in_nI hk (by decide)) hp ho (br_t rfl ⟨hp, xm_hold hk ?_⟩)
  cases hc : bt (ow p.toNatClampNeg) k
  · refine br_t rfl ⟨hp, xm_ck (br_f ?_ h)⟩
    refine nI_ge (b := 6) ?_ (by decide)
    rcases hb with z | z
    · rw [hc] at z
      exact absurd z (by decide)
    · exact z
  · exact br_f (by decide) h
theorem xm_ch_n {post : Int32 → SX → Prop} {r : Int32} (hr : ¬ r = 0) (hw : ∀ P : Int32 → Prop, P r → wpX_refuseChange P (N, sk, sv, sc, lc, op, bs, vk, vv, ow, rk) p q) (h : post r (N, sk, sv, sc, lc, op, bs, vk, vv, ow, rk)) : wpX_change post (N, sk, sv, sc, lc, op, bs, vk, vv, ow, rk) p q x y := by
  unfold wpX_change
  exact hw _ (br_f hr h)
theorem xm_ch_o {post : Int32 → SX → Prop} {k : Nat} (hk : k < 32) (hp : vp_in p 4) (ho : ¬ op p.toNatClampNeg = 0) (hb : bt (ow p.toNatClampNeg) k = true ∨ ml_pc (ow p.toNatClampNeg) < 6)
    (h : post (nI (ml_pc (ow p.toNatClampNeg ||| ((1 : Int32) <<< (nI k &&& 31))))) (N, sk, sv, sc, lc, op, bs, upd vk p.toNatClampNeg ((vk p.toNatClampNeg &&& (((1 : Int32) <<< (nI k &&& 31)) ^^^ (-1))) ||| (x <<< (nI k &&& 31))), upd vv (32 * p.toNatClampNeg + k) y, upd ow p.toNatClampNeg (ow p.toNatClampNeg ||| ((1 : Int32) <<< (nI k &&& 31))), rk)) : wpX_change post (N, sk, sv, sc, lc, op, bs, vk, vv, ow, rk) p (nI k) x y := by
  unfold wpX_change
  refine xm_rc_o hk hp ho hb (br_t rfl ⟨hp, hp, nm_e ⟨(ml_vx hp hk).2, nm_r (e' := upd vv (32 * p.toNatClampNeg + k) y) (by rw [(ml_vx hp hk).1]) ⟨hp, hp, nm_e ⟨hp, xm_ck ?_⟩⟩⟩⟩)
  rw [pk_us]
  exact h
/-! read, peek -/
theorem xm_rd_n {post : Int32 → SX → Prop} {r : Int32} (hr : ¬ r = 0) (hw : ∀ P : Int32 → Prop, P r → wpX_refuseKey P (N, sk, sv, sc, lc, op, bs, vk, vv, ow, rk) p q) (h : post r (N, sk, sv, sc, lc, op, bs, vk, vv, ow, rk)) : wpX_read post (N, sk, sv, sc, lc, op, bs, vk, vv, ow, rk) p q := by
  unfold wpX_read
  exact hw _ (br_f hr h)
theorem xm_rd_o {post : Int32 → SX → Prop} {k : Nat} (hk : k < 32) (hp : vp_in p 4) (ho : ¬ op p.toNatClampNeg = 0) (h : post (ml_b (bt (vk p.toNatClampNeg) k)) (N, sk, sv, sc, lc, op, bs, vk, vv, ow, upd rk p.toNatClampNeg (rk p.toNatClampNeg ||| ((1 : Int32) <<< (nI k &&& 31))))) : wpX_read post (N, sk, sv, sc, lc, op, bs, vk, vv, ow, rk) p (nI k) := by
  unfold wpX_read
  refine xm_rk_o (vp_in_nI hk (by decide)) hp ho (br_t rfl ⟨hp, hp, nm_e ⟨hp, xm_hold hk ?_⟩⟩)
  cases hb : bt (vk p.toNatClampNeg) k
  · rw [hb] at h
    exact br_t rfl h
  · rw [hb] at h
    exact br_f (by decide) h
theorem xm_pe_n {post : Int32 → Prop} {r : Int32} (hr : ¬ r = 0) (hw : ∀ P : Int32 → Prop, P r → wpX_refuseKey P (N, sk, sv, sc, lc, op, bs, vk, vv, ow, rk) p q) (h : post 0) : wpX_peek post (N, sk, sv, sc, lc, op, bs, vk, vv, ow, rk) p q := by
  unfold wpX_peek
  exact hw _ (br_f hr h)
theorem xm_pe_o {post : Int32 → Prop} {k : Nat} (hk : k < 32) (hp : vp_in p 4) (ho : ¬ op p.toNatClampNeg = 0) (h : post (vv (32 * p.toNatClampNeg + k))) : wpX_peek post (N, sk, sv, sc, lc, op, bs, vk, vv, ow, rk) p (nI k) := by
  unfold wpX_peek
  refine xm_rk_o (vp_in_nI hk (by decide)) hp ho (br_t rfl ⟨(ml_vx hp hk).2, ?_⟩)
  rw [(ml_vx hp hk).1]
  exact h
/-! countRange -/
theorem xm_kbL {post : Int32 → Prop} {lo hi : Nat} (hh : hi < 32) : ∀ d i, lo + i + d = hi + 1 → post (ml_rg lo (i + d)) → wX_keysBetween_4 post (nI hi) (d + 1) (ml_rg lo i) (nI (lo + i)) := by
  intro d
  induction d with
  | zero =>
    intro i hi' h
    exact br_t (nI_lt (by omega) (by omega)) h
  | succ d ih =>
    intro i hi' h
    refine br_f (nI_nlt (by omega) (by omega)) (nm_e (nm_r (nI_1 (lo + i)) ?_))
    have g := ih (i + 1) (by omega) (by rw [show i + 1 + d = i + (d + 1) by omega]; exact h)
    exact g
theorem xm_kb {post : Int32 → Prop} {lo hi : Nat} (hh : hi < 32) (hl : lo ≤ hi) (h : post (ml_rg lo (hi + 1 - lo))) : wpX_keysBetween post (nI lo) (nI hi) := ⟨hi + 1 - lo + 1, xm_kbL hh (hi + 1 - lo) 0 (by omega) (by rw [Nat.zero_add]; exact h)⟩
theorem xm_cr_l {post : Int32 → SX → Prop} (hx : ¬ vp_in x 32) (h : post (-1) (N, sk, sv, sc, lc, op, bs, vk, vv, ow, rk)) : wpX_countRange post (N, sk, sv, sc, lc, op, bs, vk, vv, ow, rk) p x y := by
  unfold wpX_countRange
  exact xm_ky_f hx (br_t rfl h)
theorem xm_cr_h {post : Int32 → SX → Prop} (hy : ¬ vp_in y 32) (h : post (-1) (N, sk, sv, sc, lc, op, bs, vk, vv, ow, rk)) : wpX_countRange post (N, sk, sv, sc, lc, op, bs, vk, vv, ow, rk) p x y := by
  by_cases hx : vp_in x 32
  · unfold wpX_countRange
    exact xm_ky_t hx (br_f ml_10 (xm_ky_f hy (br_t rfl h)))
  · exact xm_cr_l hx h
theorem xm_cr_g {post : Int32 → SX → Prop} (hx : vp_in x 32) (hy : vp_in y 32) (hl : ¬ x ≤ y) (h : post (-1) (N, sk, sv, sc, lc, op, bs, vk, vv, ow, rk)) : wpX_countRange post (N, sk, sv, sc, lc, op, bs, vk, vv, ow, rk) p x y := by
  unfold wpX_countRange
  exact xm_ky_t hx (br_f ml_10 (xm_ky_t hy (br_f ml_10 (br_f hl h))))
theorem xm_cr_n {post : Int32 → SX → Prop} {r : Int32} (hr : ¬ r = 0) (hx : vp_in x 32) (hy : vp_in y 32) (hl : x ≤ y) (hw : ∀ P : Int32 → Prop, P r → wpX_refuseTransaction P (N, sk, sv, sc, lc, op, bs, vk, vv, ow, rk) p) (h : post r (N, sk, sv, sc, lc, op, bs, vk, vv, ow, rk)) : wpX_countRange post (N, sk, sv, sc, lc, op, bs, vk, vv, ow, rk) p x y := by
  unfold wpX_countRange
  exact xm_ky_t hx (br_f ml_10 (xm_ky_t hy (br_f ml_10 (br_t hl (hw _ (br_f hr h))))))
theorem xm_cr_o {post : Int32 → SX → Prop} {lo hi : Nat} (hh : hi < 32) (hl : lo ≤ hi) (hp : vp_in p 4) (ho : ¬ op p.toNatClampNeg = 0) (h : post (nI (ml_pc (vk p.toNatClampNeg &&& ml_rg lo (hi + 1 - lo)))) (N, sk, sv, sc, lc, op, bs, vk, vv, ow, upd rk p.toNatClampNeg (rk p.toNatClampNeg ||| ml_rg lo (hi + 1 - lo)))) : wpX_countRange post (N, sk, sv, sc, lc, op, bs, vk, vv, ow, rk) p (nI lo) (nI hi) := by
  unfold wpX_countRange
  exact xm_ky_t (vp_in_nI (by omega) (by decide)) (br_f ml_10 (xm_ky_t (vp_in_nI hh (by decide)) (br_f ml_10 (br_t (nI_le hl (by omega)) (xm_rt_o hp ho (br_t rfl (xm_kb hh hl ⟨hp, hp, nm_e ⟨hp, xm_ck h⟩⟩)))))))
/-! abort -/
theorem xm_ab_n {post : Int32 → SX → Prop} {r : Int32} (hr : ¬ r = 0) (hw : ∀ P : Int32 → Prop, P r → wpX_refuseTransaction P (N, sk, sv, sc, lc, op, bs, vk, vv, ow, rk) p) (h : post r (N, sk, sv, sc, lc, op, bs, vk, vv, ow, rk)) : wpX_abort post (N, sk, sv, sc, lc, op, bs, vk, vv, ow, rk) p := by
  unfold wpX_abort
  exact hw _ (br_f hr h)
theorem xm_ab_o {post : Int32 → SX → Prop} (hp : vp_in p 4) (ho : ¬ op p.toNatClampNeg = 0) (h : post (nI (ml_pc (ow p.toNatClampNeg))) (N, sk, sv, sc, lc, upd op p.toNatClampNeg (vp_nar .boolean 0), bs, vk, vv, ow, rk)) : wpX_abort post (N, sk, sv, sc, lc, op, bs, vk, vv, ow, rk) p := by
  unfold wpX_abort
  exact xm_rt_o hp ho (br_t rfl ⟨hp, nm_e ⟨hp, xm_ck h⟩⟩)
end
end
section
/-! ===== X: commit; latest, has, at, size, changed ===== -/
/-- the cells of a new state: own where w has the key, else the older state's -/
def ml_mx (w : Int32) (a : Nat → Int32) (d : Nat) (b : Nat → Int32) (e : Nat) : Nat → Int32 := fun k => if bt w k then a (d + k) else b (e + k)
theorem ml_mx_t {w : Int32} {a : Nat → Int32} {d : Nat} {b : Nat → Int32} {e k : Nat} (h : bt w k = true) : ml_mx w a d b e k = a (d + k) := if_pos h
theorem ml_mx_f {w : Int32} {a : Nat → Int32} {d : Nat} {b : Nat → Int32} {e k : Nat} (h : bt w k = false) : ml_mx w a d b e k = b (e + k) := if_neg (by rw [h]; decide)
def ml_St (n : Nat) (x : Int32) : Prop := ¬ x < 0 ∧ ¬ nI n < x
def ml_Kp (n : Nat) (x : Int32) : Prop := ml_St n x ∧ ¬ x ≤ nI n - 6
theorem ml_St_e {n : Nat} {x : Int32} (hn : n < 2 ^ 30) (h : ml_St n x) : ∃ s, x = nI s ∧ s ≤ n := by
  obtain ⟨s, hs, rfl⟩ := nI_of h.1
  refine ⟨s, rfl, ?_⟩
  have h1 := h.2
  rw [nI_ltI (by omega) hs] at h1
  omega
theorem ml_Kp_e {n : Nat} {x : Int32} (hn : n < 2 ^ 30) (h : ml_Kp n x) : ∃ s, x = nI s ∧ s ≤ n ∧ n < s + 6 := by
  obtain ⟨s, rfl, hs⟩ := ml_St_e hn h.1
  refine ⟨s, rfl, hs, ?_⟩
  have h2 : ¬ nI s ≤ nI n - nI 6 := h.2
  rw [Int32.le_iff_toInt_le, pk_sub_toInt hn (by decide), nI_toInt (by omega)] at h2
  omega
section
variable {N : Int32} {sk sv sc lc op bs vk vv ow rk : Nat → Int32} {p q x y : Int32}
theorem xm_hcL {post : Int32 → Prop} (hp : vp_in p 4) (h1 : ∀ k, k < 32 → bt (rk p.toNatClampNeg) k = true → bs p.toNatClampNeg < lc k → post 1) (h0 : (∀ k, k < 32 → ¬ (bt (rk p.toNatClampNeg) k = true ∧ bs p.toNatClampNeg < lc k)) → post 0) : ∀ d i, i + d = 32 → (∀ k, k < i → ¬ (bt (rk p.toNatClampNeg) k = true ∧ bs p.toNatClampNeg < lc k)) → wX_hasReadChangedKey_2 post p N sk sv sc lc op bs vk vv ow rk (d + 1) (nI i) := by
  intro d
  induction d with
  | zero =>
    intro i hi hz
    obtain rfl : i = 32 := by omega
    exact br_t ml_32 (h0 hz)
  | succ d ih =>
    intro i hi hz
    have hl : i < 32 := by omega
    refine br_f (ml_l32 hl) ⟨hp, xm_hold hl ?_⟩
    cases hb : bt (rk p.toNatClampNeg) i
    · exact br_t rfl (nm_r (nI_1 i) (ih (i + 1) (by omega) (lt_s hz (fun z => by rw [hb] at z; exact absurd z.1 (by decide)))))
    · refine br_f (by decide) ⟨vp_in_nI hl (by decide), hp, ?_⟩
      rw [nI_clamp (by omega)]
      by_cases hle : lc i ≤ bs p.toNatClampNeg
      · exact br_t hle (nm_r (nI_1 i) (ih (i + 1) (by omega) (lt_s hz (fun z => absurd hle (Int32.not_le.mpr z.2)))))
      · exact br_f hle (h1 i hl hb (Int32.not_le.mp hle))
theorem xm_hc {post : Int32 → Prop} (hp : vp_in p 4) (h1 : ∀ k, k < 32 → bt (rk p.toNatClampNeg) k = true → bs p.toNatClampNeg < lc k → post 1) (h0 : (∀ k, k < 32 → ¬ (bt (rk p.toNatClampNeg) k = true ∧ bs p.toNatClampNeg < lc k)) → post 0) : wpX_hasReadChangedKey post (N, sk, sv, sc, lc, op, bs, vk, vv, ow, rk) p := ⟨33, xm_hcL hp h1 h0 32 0 rfl lt_0⟩
theorem xm_msL {post : SX → Prop} (hp : vp_in p 4) {f g : Nat} (hf : f < 8) (hg : g < 8) (hne : f ≠ g) {w : Int32} (h : post (N, sk, ml_cp sv (g * 32) (ml_mx w vv (32 * p.toNatClampNeg) sv (f * 32)) 32, sc, ml_lc lc w N 32, op, bs, vk, vv, ow, rk)) : ∀ d i, i + d = 32 → wX_makeState_71 post p w (nI f) (nI g) N (d + 1) (nI i) sk (ml_cp sv (g * 32) (ml_mx w vv (32 * p.toNatClampNeg) sv (f * 32)) i) sc (ml_lc lc w N i) op bs vk vv ow rk := by
  intro d
  induction d with
  | zero =>
    intro i hi
    obtain rfl : i = 32 := by omega
    exact br_t ml_32 h
  | succ d ih =>
    intro i hi
    have hl : i < 32 := by omega
    refine br_f (ml_l32 hl) (xm_hold hl ?_)
    cases hb : bt w i
    · refine br_t rfl ⟨(ml_sx hf hl).2, (ml_sx hg hl).2, nm_r (e' := ml_cp sv (g * 32) (ml_mx w vv (32 * p.toNatClampNeg) sv (f * 32)) (i + 1)) ?_ (nm_r (nI_1 i) ?_)⟩
      · rw [(ml_sx hg hl).1, (ml_sx hf hl).1, ml_cp_out _ _ _ (by omega), ← ml_mx_f (w := w) (a := vv) (d := 32 * p.toNatClampNeg) (b := sv) (e := f * 32) hb]
        exact ml_cpS _ _ _ _
      · rw [ml_lcN lc w N i hb]
        exact ih (i + 1) (by omega)
    · refine br_f (by decide) ⟨(ml_vx hp hl).2, (ml_sx hg hl).2, nm_r (e' := ml_cp sv (g * 32) (ml_mx w vv (32 * p.toNatClampNeg) sv (f * 32)) (i + 1)) ?_ ⟨vp_in_nI hl (by decide), nm_r (e' := ml_lc lc w N (i + 1)) ?_ (nm_r (nI_1 i) (ih (i + 1) (by omega)))⟩⟩
      · rw [(ml_sx hg hl).1, (ml_vx hp hl).1, ← ml_mx_t (w := w) (a := vv) (d := 32 * p.toNatClampNeg) (b := sv) (e := f * 32) hb]
        exact ml_cpS _ _ _ _
      · rw [nI_clamp (by omega)]
        exact ml_lcS lc w N i hb
theorem xm_ms {post : SX → Prop} {n : Nat} (hn : n + 1 < 2 ^ 31) (hp : vp_in p 4) (h : post (nI (n + 1), upd sk ((n + 1) % 8) ((sk (n % 8) &&& (ow p.toNatClampNeg ^^^ (-1))) ||| (vk p.toNatClampNeg &&& ow p.toNatClampNeg)), ml_cp sv ((n + 1) % 8 * 32) (ml_mx (ow p.toNatClampNeg) vv (32 * p.toNatClampNeg) sv (n % 8 * 32)) 32, upd sc ((n + 1) % 8) (ow p.toNatClampNeg), ml_lc lc (ow p.toNatClampNeg) (nI (n + 1)) 32, op, bs, vk, vv, ow, rk)) : wpX_makeState post (nI n, sk, sv, sc, lc, op, bs, vk, vv, ow, rk) p := by
  have h8 : n % 8 < 8 := Nat.mod_lt _ (by decide)
  have h9 : (n + 1) % 8 < 8 := Nat.mod_lt _ (by decide)
  unfold wpX_makeState
  refine ⟨hp, nm_e (xm_slot (by omega) (nm_r (nI_1 n) (xm_slot hn ⟨vp_in_nI h8 (by decide), hp, vp_in_nI h9 (by decide), nm_r (e' := upd sk ((n + 1) % 8) ((sk (n % 8) &&& (ow p.toNatClampNeg ^^^ (-1))) ||| (vk p.toNatClampNeg &&& ow p.toNatClampNeg))) ?_ ⟨vp_in_nI h9 (by decide), nm_r (e' := upd sc ((n + 1) % 8) (ow p.toNatClampNeg)) ?_ ⟨33, ?_⟩⟩⟩)))⟩
  · rw [nI_clamp (by omega), nI_clamp (by omega)]
  · rw [nI_clamp (by omega)]
  · have g := xm_msL (post := post) (lc := lc) (N := nI (n + 1)) hp h8 h9 (by omega) h 32 0 rfl
    rw [ml_cp0, ml_lc0] at g
    exact g
theorem xm_co_n {post : Int32 → SX → Prop} {r : Int32} (hr : ¬ r = 0) (hw : ∀ P : Int32 → Prop, P r → wpX_refuseTransaction P (N, sk, sv, sc, lc, op, bs, vk, vv, ow, rk) p) (h : post r (N, sk, sv, sc, lc, op, bs, vk, vv, ow, rk)) : wpX_commit post (N, sk, sv, sc, lc, op, bs, vk, vv, ow, rk) p := by
  unfold wpX_commit
  exact hw _ (br_f hr h)
theorem xm_co {post : Int32 → SX → Prop} {n : Nat} (hn : n + 1 < 2 ^ 31) (hp : vp_in p 4) (ho : ¬ op p.toNatClampNeg = 0)
    (h1 : ∀ k, k < 32 → bt (rk p.toNatClampNeg) k = true → bs p.toNatClampNeg < lc k → post (-5) (nI n, sk, sv, sc, lc, upd op p.toNatClampNeg (vp_nar .boolean 0), bs, vk, vv, ow, rk))
    (h0 : (∀ k, k < 32 → ¬ (bt (rk p.toNatClampNeg) k = true ∧ bs p.toNatClampNeg < lc k)) → post (nI (n + 1)) (nI (n + 1), upd sk ((n + 1) % 8) ((sk (n % 8) &&& (ow p.toNatClampNeg ^^^ (-1))) ||| (vk p.toNatClampNeg &&& ow p.toNatClampNeg)), ml_cp sv ((n + 1) % 8 * 32) (ml_mx (ow p.toNatClampNeg) vv (32 * p.toNatClampNeg) sv (n % 8 * 32)) 32, upd sc ((n + 1) % 8) (ow p.toNatClampNeg), ml_lc lc (ow p.toNatClampNeg) (nI (n + 1)) 32, upd op p.toNatClampNeg (vp_nar .boolean 0), bs, vk, vv, ow, rk)) : wpX_commit post (nI n, sk, sv, sc, lc, op, bs, vk, vv, ow, rk) p := by
  unfold wpX_commit
  refine xm_rt_o hp ho (br_t rfl ⟨hp, nm_e (xm_hc hp ?_ ?_)⟩)
  · intro k hk a b
    exact br_f ml_10 (h1 k hk a b)
  · intro a
    refine br_t rfl ?_
    exact xm_ms hn hp (h0 a)
/-! isState, isKept and what rests on them -/
theorem xm_is_t {post : Int32 → Prop} {n : Nat} (hs : ml_St n x) (h : post 1) : wpX_isState post (nI n, sk, sv, sc, lc, op, bs, vk, vv, ow, rk) x := br_f hs.1 (br_f hs.2 h)
theorem xm_is_f {post : Int32 → Prop} {n : Nat} (hs : ¬ ml_St n x) (h : post 0) : wpX_isState post (nI n, sk, sv, sc, lc, op, bs, vk, vv, ow, rk) x := by
  by_cases h0 : x < 0
  · exact br_t h0 h
  · by_cases h1 : nI n < x
    · exact br_f h0 (br_t h1 h)
    · exact absurd ⟨h0, h1⟩ hs
theorem xm_ik_t {post : Int32 → Prop} {n : Nat} (hs : ml_Kp n x) (h : post 1) : wpX_isKept post (nI n, sk, sv, sc, lc, op, bs, vk, vv, ow, rk) x := by
  unfold wpX_isKept
  exact xm_is_t hs.1 (br_f ml_10 (br_f hs.2 h))
theorem xm_ik_f {post : Int32 → Prop} {n : Nat} (hs : ¬ ml_Kp n x) (h : post 0) : wpX_isKept post (nI n, sk, sv, sc, lc, op, bs, vk, vv, ow, rk) x := by
  unfold wpX_isKept
  by_cases h0 : ml_St n x
  · by_cases h1 : x ≤ nI n - 6
    · exact xm_is_t h0 (br_f ml_10 (br_t h1 h))
    · exact absurd ⟨h0, h1⟩ hs
  · exact xm_is_f h0 (br_t rfl h)
theorem xm_ha_n {post : Int32 → Prop} {n : Nat} (hs : ¬ (ml_Kp n x ∧ vp_in y 32)) (h : post 0) : wpX_has post (nI n, sk, sv, sc, lc, op, bs, vk, vv, ow, rk) x y := by
  unfold wpX_has
  by_cases hx : ml_Kp n x
  · exact xm_ik_t hx (br_f ml_10 (xm_ky_f (fun z => hs ⟨hx, z⟩) (br_t rfl h)))
  · exact xm_ik_f hx (br_t rfl h)
theorem xm_ha_o {post : Int32 → Prop} {n s k : Nat} (hs : ml_Kp n (nI s)) (hs' : s < 2 ^ 31) (hk : k < 32) (h : post (ml_b (bt (sk (s % 8)) k))) : wpX_has post (nI n, sk, sv, sc, lc, op, bs, vk, vv, ow, rk) (nI s) (nI k) := by
  have h8 : s % 8 < 8 := Nat.mod_lt _ (by decide)
  unfold wpX_has
  refine xm_ik_t hs (br_f ml_10 (xm_ky_t (vp_in_nI hk (by decide)) (br_f ml_10 (xm_slot hs' ⟨vp_in_nI h8 (by decide), ?_⟩))))
  rw [nI_clamp (by omega)]
  exact xm_hold hk ⟨ml_bn _, h⟩
theorem xm_at_n {post : Int32 → Prop} {n : Nat} (hs : ¬ (ml_Kp n x ∧ vp_in y 32)) (h : post 0) : wpX_at post (nI n, sk, sv, sc, lc, op, bs, vk, vv, ow, rk) x y := by
  unfold wpX_at
  by_cases hx : ml_Kp n x
  · exact xm_ik_t hx (br_f ml_10 (xm_ky_f (fun z => hs ⟨hx, z⟩) (br_t rfl h)))
  · exact xm_ik_f hx (br_t rfl h)
theorem xm_at_o {post : Int32 → Prop} {n s k : Nat} (hs : ml_Kp n (nI s)) (hs' : s < 2 ^ 31) (hk : k < 32) (h : post (sv (s % 8 * 32 + k))) : wpX_at post (nI n, sk, sv, sc, lc, op, bs, vk, vv, ow, rk) (nI s) (nI k) := by
  have h8 : s % 8 < 8 := Nat.mod_lt _ (by decide)
  unfold wpX_at
  refine xm_ik_t hs (br_f ml_10 (xm_ky_t (vp_in_nI hk (by decide)) (br_f ml_10 (xm_slot hs' ⟨(ml_sx h8 hk).2, ?_⟩))))
  rw [(ml_sx h8 hk).1]
  exact h
theorem xm_sz_b {post : Int32 → Prop} {n : Nat} (hs : ¬ ml_St n x) (h : post (-1)) : wpX_size post (nI n, sk, sv, sc, lc, op, bs, vk, vv, ow, rk) x := by
  unfold wpX_size
  exact xm_is_f hs (br_t rfl h)
theorem xm_sz_g {post : Int32 → Prop} {n : Nat} (hs : ml_St n x) (hk : ¬ ml_Kp n x) (h : post (-6)) : wpX_size post (nI n, sk, sv, sc, lc, op, bs, vk, vv, ow, rk) x := by
  unfold wpX_size
  exact xm_is_t hs (br_f ml_10 (xm_ik_f hk (br_t rfl h)))
theorem xm_sz_o {post : Int32 → Prop} {n s : Nat} (hs : ml_Kp n (nI s)) (hs' : s < 2 ^ 31) (h : post (nI (ml_pc (sk (s % 8))))) : wpX_size post (nI n, sk, sv, sc, lc, op, bs, vk, vv, ow, rk) (nI s) := by
  have h8 : s % 8 < 8 := Nat.mod_lt _ (by decide)
  unfold wpX_size
  refine xm_is_t hs.1 (br_f ml_10 (xm_ik_t hs (br_f ml_10 (xm_slot hs' ⟨vp_in_nI h8 (by decide), ?_⟩))))
  rw [nI_clamp (by omega)]
  exact xm_ck h
theorem xm_cdL {post : Int32 → Prop} {a b : Nat} (hb : b < 2 ^ 30) : ∀ d i, a + i + d = b → post (nI (ml_pc (ml_un sc 8 a (i + d)))) → wX_changed_47 post (nI b) N sk sv sc lc op bs vk vv ow rk (d + 1) (ml_un sc 8 a i) (nI (a + i)) := by
  intro d
  induction d with
  | zero =>
    intro i hi h
    exact br_t (nI_le (by omega) (by omega)) (xm_ck h)
  | succ d ih =>
    intro i hi h
    have h8 : (a + i + 1) % 8 < 8 := Nat.mod_lt _ (by decide)
    have g := ih (i + 1) (by omega) (by rw [show i + 1 + d = i + (d + 1) by omega]; exact h)
    refine br_f (nI_ge (by omega) (by omega)) ?_
    rw [nI_1 (a + i)]
    exact xm_slot (by omega) ⟨vp_in_nI h8 (by decide), nm_r (e' := ml_un sc 8 a (i + 1)) (by rw [nI_clamp (by omega)]; rfl) (nm_e g)⟩
theorem xm_cd_x {post : Int32 → Prop} {n : Nat} (hs : ¬ (ml_St n x ∧ ml_St n y ∧ x < y)) (h : post (-1)) : wpX_changed post (nI n, sk, sv, sc, lc, op, bs, vk, vv, ow, rk) x y := by
  unfold wpX_changed
  by_cases hx : ml_St n x
  · by_cases hy : ml_St n y
    · exact xm_is_t hx (br_f ml_10 (xm_is_t hy (br_f ml_10 (br_f (fun z => hs ⟨hx, hy, z⟩) h))))
    · exact xm_is_t hx (br_f ml_10 (xm_is_f hy (br_t rfl h)))
  · exact xm_is_f hx (br_t rfl h)
theorem xm_cd_g {post : Int32 → Prop} {n : Nat} (hs : ml_St n x ∧ ml_St n y ∧ x < y) (hk : ¬ (ml_Kp n x ∧ ml_Kp n y)) (h : post (-6)) : wpX_changed post (nI n, sk, sv, sc, lc, op, bs, vk, vv, ow, rk) x y := by
  unfold wpX_changed
  refine xm_is_t hs.1 (br_f ml_10 (xm_is_t hs.2.1 (br_f ml_10 (br_t hs.2.2 ?_))))
  by_cases hx : ml_Kp n x
  · exact xm_ik_t hx (br_f ml_10 (xm_ik_f (fun z => hk ⟨hx, z⟩) (br_t rfl h)))
  · exact xm_ik_f hx (br_t rfl h)
theorem xm_cd_o {post : Int32 → Prop} {n a b : Nat} (hb : b < 2 ^ 30) (hl : a < b) (ha' : ml_Kp n (nI a)) (hb' : ml_Kp n (nI b)) (h : post (nI (ml_pc (ml_un sc 8 a (b - a))))) : wpX_changed post (nI n, sk, sv, sc, lc, op, bs, vk, vv, ow, rk) (nI a) (nI b) := by
  unfold wpX_changed
  refine xm_is_t ha'.1 (br_f ml_10 (xm_is_t hb'.1 (br_f ml_10 (br_t (nI_lt hl (by omega)) ?_))))
  exact xm_ik_t ha' (br_f ml_10 (xm_ik_t hb' (br_f ml_10 ⟨b - a + 1, xm_cdL hb (b - a) 0 (by omega) (by rw [Nat.zero_add]; exact h)⟩)))
end
end
section
/-! ===== Y: begin, write, erase, read, peek, countRange, abort ===== -/
section
variable {N : Int32} {op vv ow rk th va tc se si : Nat → Int32} {p q x y : Int32}
theorem ml_ry {n : Nat} (hn : n < 2 ^ 31) {k : Nat} (hk : k < 32) : (32 * (nI n - nI n / 6 * 6) + nI k).toNatClampNeg = 32 * (n % 6) + k ∧ vp_in (32 * (nI n - nI n / 6 * 6) + nI k) 192 := by
  rw [ml_rem6 n hn]
  exact ml_sy (Nat.mod_lt _ (by decide)) hk
theorem ml_r6 {n : Nat} (hn : n < 2 ^ 31) : (nI n - nI n / 6 * 6).toNatClampNeg = n % 6 ∧ vp_in (nI n - nI n / 6 * 6) 6 := by
  have h6 : n % 6 < 6 := Nat.mod_lt _ (by decide)
  rw [ml_rem6 n hn, nI_clamp (by omega)]
  exact ⟨rfl, vp_in_nI h6 (by decide)⟩
theorem ym_bgL {post : Int32 → SY → Prop} (hp : vp_in p 4) {n : Nat} (hn : n < 2 ^ 31) (hb : ∀ k, k < 32 → vp_nar .boolean (th (32 * (n % 6) + k)) = th (32 * (n % 6) + k)) (h : post (nI n) (nI n, th, va, tc, op, ml_cp se (32 * p.toNatClampNeg) (fun k => th (32 * (n % 6) + k)) 32, ml_cp vv (32 * p.toNatClampNeg) (fun k => va (32 * (n % 6) + k)) 32, ow, rk, si)) : ∀ d i, i + d = 32 → wY_begin_52 post p (nI n) (d + 1) (nI i) th va tc op (ml_cp se (32 * p.toNatClampNeg) (fun k => th (32 * (n % 6) + k)) i) (ml_cp vv (32 * p.toNatClampNeg) (fun k => va (32 * (n % 6) + k)) i) ow rk si := by
  intro d
  induction d with
  | zero =>
    intro i hi
    obtain rfl : i = 32 := by omega
    exact br_t ml_32 h
  | succ d ih =>
    intro i hi
    have hl : i < 32 := by omega
    refine br_f (ml_l32 hl) ⟨ml_60, (ml_ry hn hl).2, (ml_vy hp hl).2, nm_r (e' := ml_cp se (32 * p.toNatClampNeg) (fun k => th (32 * (n % 6) + k)) (i + 1)) ?_ ⟨ml_60, (ml_ry hn hl).2, (ml_vy hp hl).2, nm_r (e' := ml_cp vv (32 * p.toNatClampNeg) (fun k => va (32 * (n % 6) + k)) (i + 1)) ?_ (nm_r (nI_1 i) (ih (i + 1) (by omega)))⟩⟩
    · rw [(ml_ry hn hl).1, (ml_vy hp hl).1, hb i hl]
      exact ml_cpS _ _ (fun k => th (32 * (n % 6) + k)) _
    · rw [(ml_ry hn hl).1, (ml_vy hp hl).1]
      exact ml_cpS _ _ (fun k => va (32 * (n % 6) + k)) _
theorem ym_begin_b {post : Int32 → SY → Prop} (hp : ¬ vp_in p 4) (h : post (-1) (N, th, va, tc, op, se, vv, ow, rk, si)) : wpY_begin post (N, th, va, tc, op, se, vv, ow, rk, si) p := by
  unfold wpY_begin
  exact ym_tr_f hp (br_t rfl h)
theorem ym_begin_o {post : Int32 → SY → Prop} (hp : vp_in p 4) (ho : ¬ op p.toNatClampNeg = 0) (h : post (-2) (N, th, va, tc, op, se, vv, ow, rk, si)) : wpY_begin post (N, th, va, tc, op, se, vv, ow, rk, si) p := by
  unfold wpY_begin
  exact ym_tr_t hp (br_f ml_10 ⟨hp, br_f ho h⟩)
theorem ym_begin {post : Int32 → SY → Prop} {n : Nat} (hn : n < 2 ^ 31) (hp : vp_in p 4) (ho : op p.toNatClampNeg = 0) (hb : ∀ k, k < 32 → vp_nar .boolean (th (32 * (n % 6) + k)) = th (32 * (n % 6) + k)) (h : post (nI n) (nI n, th, va, tc, upd op p.toNatClampNeg (vp_nar .boolean 1), ml_cp se (32 * p.toNatClampNeg) (fun k => th (32 * (n % 6) + k)) 32, ml_cp vv (32 * p.toNatClampNeg) (fun k => va (32 * (n % 6) + k)) 32, upd ow p.toNatClampNeg 0, upd rk p.toNatClampNeg 0, upd si p.toNatClampNeg 0)) : wpY_begin post (nI n, th, va, tc, op, se, vv, ow, rk, si) p := by
  unfold wpY_begin
  refine ym_tr_t hp (br_f ml_10 ⟨hp, br_t ho ⟨hp, nm_e ⟨hp, nm_e ⟨hp, nm_e ⟨hp, nm_e ⟨33, ?_⟩⟩⟩⟩⟩⟩)
  have g := ym_bgL (post := post) (se := se) (vv := vv) hp hn hb h 32 0 rfl
  rw [ml_cp0, ml_cp0] at g
  exact g
/-! give -/
theorem ym_g66 {post : Int32 → SY → Prop} {k : Nat} (hk : k < 32) (hp : vp_in p 4) (b : Bool) (h : post (nI (ml_pc (ow p.toNatClampNeg ||| ((1 : Int32) <<< (nI k &&& 31))))) (N, th, va, tc, op, upd se (32 * p.toNatClampNeg + k) (ml_b b), upd vv (32 * p.toNatClampNeg + k) y, upd ow p.toNatClampNeg (ow p.toNatClampNeg ||| ((1 : Int32) <<< (nI k &&& 31))), rk, si)) : wY_give_66 post p (nI k) (ml_b b) y N th va tc op se vv ow rk si := by
  unfold wY_give_66
  refine ⟨hp, hp, nm_e ⟨(ml_vy hp hk).2, nm_r (e' := upd se (32 * p.toNatClampNeg + k) (ml_b b)) (by rw [(ml_vy hp hk).1, ml_bz]) ⟨(ml_vy hp hk).2, nm_r (e' := upd vv (32 * p.toNatClampNeg + k) y) (by rw [(ml_vy hp hk).1]) ⟨hp, ym_ck ?_⟩⟩⟩⟩
  rw [pk_us]
  exact h
theorem ym_gi_b {post : Int32 → SY → Prop} (hs : ¬ (vp_in p 4 ∧ vp_in q 32)) (h : post (-1) (N, th, va, tc, op, se, vv, ow, rk, si)) : wpY_give post (N, th, va, tc, op, se, vv, ow, rk, si) p q x y := by
  unfold wpY_give
  by_cases hp : vp_in p 4
  · exact ym_tr_t hp (br_f ml_10 (ym_ky_f (fun z => hs ⟨hp, z⟩) (br_t rfl h)))
  · exact ym_tr_f hp (br_t rfl h)
theorem ym_gi_c {post : Int32 → SY → Prop} (hp : vp_in p 4) (hq : vp_in q 32) (ho : op p.toNatClampNeg = 0) (h : post (-3) (N, th, va, tc, op, se, vv, ow, rk, si)) : wpY_give post (N, th, va, tc, op, se, vv, ow, rk, si) p q x y := by
  unfold wpY_give
  exact ym_tr_t hp (br_f ml_10 (ym_ky_t hq (br_f ml_10 ⟨hp, br_t ho h⟩)))
theorem ym_gi_f {post : Int32 → SY → Prop} {k : Nat} (hk : k < 32) (hp : vp_in p 4) (ho : ¬ op p.toNatClampNeg = 0) (hb : bt (ow p.toNatClampNeg) k = false) (hc : ml_pc (ow p.toNatClampNeg) = 6) (h : post (-4) (N, th, va, tc, op, se, vv, ow, rk, si)) : wpY_give post (N, th, va, tc, op, se, vv, ow, rk, si) p (nI k) x y := by
  unfold wpY_give
  refine ym_tr_t hp (br_f ml_10 (ym_ky_t (vp_in_nI hk (by decide)) (br_f ml_10 ⟨hp, br_f ho ⟨hp, ym_ck ⟨hp, ym_in hk ?_⟩⟩⟩)))
  rw [hb, hc]
  exact br_t rfl (br_t rfl h)
theorem ym_gi_o {post : Int32 → SY → Prop} {k : Nat} (hk : k < 32) (hp : vp_in p 4) (ho : ¬ op p.toNatClampNeg = 0) (hb : bt (ow p.toNatClampNeg) k = true ∨ ml_pc (ow p.toNatClampNeg) < 6) (b : Bool) (h : post (nI (ml_pc (ow p.toNatClampNeg ||| ((1 : Int32) <<< (nI k &&& 31))))) (N, th, va, tc, op, upd se (32 * p.toNatClampNeg + k) (ml_b b), upd vv (32 * p.toNatClampNeg + k) y, upd ow p.toNatClampNeg (ow p.toNatClampNeg ||| ((1 : Int32) <<< (nI k &&& 31))), rk, si)) : wpY_give post (N, th, va, tc, op, se, vv, ow, rk, si) p (nI k) (ml_b b) y := by
  unfold wpY_give
  refine ym_tr_t hp (br_f ml_10 (ym_ky_t (vp_in_nI hk (by decide)) (br_f ml_10 ⟨hp, br_f ho ⟨hp, ym_ck ⟨hp, ym_in hk ?_⟩⟩⟩)))
  cases hc : bt (ow p.toNatClampNeg) k
  · refine br_t rfl (br_f ?_ (ym_g66 hk hp b h))
    rcases hb with z | z
    · rw [hc] at z
      exact absurd z (by decide)
    · intro e
      have e' : nI (ml_pc (ow p.toNatClampNeg)) = nI 6 := e
      rw [nI_eq (by omega) (by decide)] at e'
      omega
  · exact br_f (by decide) (ym_g66 hk hp b h)
/-! read, peek -/
theorem ym_rd_b {post : Int32 → SY → Prop} (hs : ¬ (vp_in p 4 ∧ vp_in q 32)) (h : post (-1) (N, th, va, tc, op, se, vv, ow, rk, si)) : wpY_read post (N, th, va, tc, op, se, vv, ow, rk, si) p q := by
  unfold wpY_read
  by_cases hp : vp_in p 4
  · exact ym_tr_t hp (br_f ml_10 (ym_ky_f (fun z => hs ⟨hp, z⟩) (br_t rfl h)))
  · exact ym_tr_f hp (br_t rfl h)
theorem ym_rd_c {post : Int32 → SY → Prop} (hp : vp_in p 4) (hq : vp_in q 32) (ho : op p.toNatClampNeg = 0) (h : post (-3) (N, th, va, tc, op, se, vv, ow, rk, si)) : wpY_read post (N, th, va, tc, op, se, vv, ow, rk, si) p q := by
  unfold wpY_read
  exact ym_tr_t hp (br_f ml_10 (ym_ky_t hq (br_f ml_10 ⟨hp, br_t ho h⟩)))
theorem ym_rd_o {post : Int32 → SY → Prop} {k : Nat} (hk : k < 32) (hp : vp_in p 4) (ho : ¬ op p.toNatClampNeg = 0) {b : Bool} (hb : se (32 * p.toNatClampNeg + k) = ml_b b) (h : post (ml_b b) (N, th, va, tc, op, se, vv, ow, upd rk p.toNatClampNeg (rk p.toNatClampNeg ||| ((1 : Int32) <<< (nI k &&& 31))), si)) : wpY_read post (N, th, va, tc, op, se, vv, ow, rk, si) p (nI k) := by
  unfold wpY_read
  refine ym_tr_t hp (br_f ml_10 (ym_ky_t (vp_in_nI hk (by decide)) (br_f ml_10 ⟨hp, br_f ho ⟨hp, hp, nm_e ⟨(ml_vy hp hk).2, ?_⟩⟩⟩)))
  rw [(ml_vy hp hk).1, hb]
  cases b
  · exact br_t rfl h
  · exact br_f (by decide) h
theorem ym_pe_b {post : Int32 → Prop} (hs : ¬ (vp_in p 4 ∧ vp_in q 32)) (h : post 0) : wpY_peek post (N, th, va, tc, op, se, vv, ow, rk, si) p q := by
  unfold wpY_peek
  by_cases hp : vp_in p 4
  · exact ym_tr_t hp (br_f ml_10 (ym_ky_f (fun z => hs ⟨hp, z⟩) (br_t rfl h)))
  · exact ym_tr_f hp (br_t rfl h)
theorem ym_pe_c {post : Int32 → Prop} (hp : vp_in p 4) (hq : vp_in q 32) (ho : op p.toNatClampNeg = 0) (h : post 0) : wpY_peek post (N, th, va, tc, op, se, vv, ow, rk, si) p q := by
  unfold wpY_peek
  exact ym_tr_t hp (br_f ml_10 (ym_ky_t hq (br_f ml_10 ⟨hp, br_t ho h⟩)))
theorem ym_pe_o {post : Int32 → Prop} {k : Nat} (hk : k < 32) (hp : vp_in p 4) (ho : ¬ op p.toNatClampNeg = 0) {b : Bool} (hb : se (32 * p.toNatClampNeg + k) = ml_b b) (hz : b = false → vv (32 * p.toNatClampNeg + k) = 0) (h : post (vv (32 * p.toNatClampNeg + k))) : wpY_peek post (N, th, va, tc, op, se, vv, ow, rk, si) p (nI k) := by
  unfold wpY_peek
  refine ym_tr_t hp (br_f ml_10 (ym_ky_t (vp_in_nI hk (by decide)) (br_f ml_10 ⟨hp, br_f ho ⟨(ml_vy hp hk).2, ?_⟩⟩)))
  rw [(ml_vy hp hk).1, hb]
  cases b
  · rw [hz rfl] at h
    exact br_t rfl h
  · exact br_f (by decide) ⟨(ml_vy hp hk).2, h⟩
/-! countRange -/
theorem ym_crL {post : Int32 → SY → Prop} {lo hi : Nat} (hh : hi < 32) (hp : vp_in p 4) (ho : ¬ op p.toNatClampNeg = 0) {V : Int32} (hse : ∀ k, k < 32 → se (32 * p.toNatClampNeg + k) = ml_b (bt V k)) : ∀ d i (rk' : Nat → Int32), lo + i + d = hi + 1 → rk' = upd rk p.toNatClampNeg (rk p.toNatClampNeg ||| ml_rg lo i) → post (nI (ml_pc (V &&& ml_rg lo (i + d)))) (N, th, va, tc, op, se, vv, ow, upd rk p.toNatClampNeg (rk p.toNatClampNeg ||| ml_rg lo (i + d)), si) → wY_countRange_49 post p (nI hi) (d + 1) (nI (ml_pc (V &&& ml_rg lo i))) (nI (lo + i)) N th va tc op se vv ow rk' si := by
  intro d
  induction d with
  | zero =>
    intro i rk' hi' hr h
    subst hr
    exact br_t (nI_lt (by omega) (by omega)) h
  | succ d ih =>
    intro i rk' hi' hr h
    have hk : lo + i < 32 := by omega
    refine br_f (nI_nlt (by omega) (by omega)) (ym_rd_o hk hp ho (hse _ hk) ?_)
    refine nm_r (e' := nI (ml_pc (V &&& ml_rg lo (i + 1)))) ?_ (nm_r (nI_1 (lo + i)) (ih (i + 1) _ (by omega) ?_ ?_))
    · rw [ml_add, ml_rg_pc V lo i hk]
    · rw [hr, ml_uu, pk_us, Int32.or_assoc]
      rfl
    · rw [show i + 1 + d = i + (d + 1) by omega]
      exact h
theorem ym_cr_b {post : Int32 → SY → Prop} (hs : ¬ (vp_in p 4 ∧ vp_in x 32 ∧ vp_in y 32 ∧ x ≤ y)) (h : post (-1) (N, th, va, tc, op, se, vv, ow, rk, si)) : wpY_countRange post (N, th, va, tc, op, se, vv, ow, rk, si) p x y := by
  unfold wpY_countRange
  by_cases hp : vp_in p 4
  · by_cases hx : vp_in x 32
    · by_cases hy : vp_in y 32
      · exact ym_tr_t hp (br_f ml_10 (ym_ky_t hx (br_f ml_10 (ym_ky_t hy (br_f ml_10 (br_f (fun z => hs ⟨hp, hx, hy, z⟩) h))))))
      · exact ym_tr_t hp (br_f ml_10 (ym_ky_t hx (br_f ml_10 (ym_ky_f hy (br_t rfl h)))))
    · exact ym_tr_t hp (br_f ml_10 (ym_ky_f hx (br_t rfl h)))
  · exact ym_tr_f hp (br_t rfl h)
theorem ym_cr_c {post : Int32 → SY → Prop} (hs : vp_in p 4 ∧ vp_in x 32 ∧ vp_in y 32 ∧ x ≤ y) (ho : op p.toNatClampNeg = 0) (h : post (-3) (N, th, va, tc, op, se, vv, ow, rk, si)) : wpY_countRange post (N, th, va, tc, op, se, vv, ow, rk, si) p x y := by
  unfold wpY_countRange
  exact ym_tr_t hs.1 (br_f ml_10 (ym_ky_t hs.2.1 (br_f ml_10 (ym_ky_t hs.2.2.1 (br_f ml_10 (br_t hs.2.2.2 ⟨hs.1, br_t ho h⟩))))))
theorem ym_cr_o {post : Int32 → SY → Prop} {lo hi : Nat} (hh : hi < 32) (hl : lo ≤ hi) (hp : vp_in p 4) (ho : ¬ op p.toNatClampNeg = 0) {V : Int32} (hse : ∀ k, k < 32 → se (32 * p.toNatClampNeg + k) = ml_b (bt V k)) (h : post (nI (ml_pc (V &&& ml_rg lo (hi + 1 - lo)))) (N, th, va, tc, op, se, vv, ow, upd rk p.toNatClampNeg (rk p.toNatClampNeg ||| ml_rg lo (hi + 1 - lo)), si)) : wpY_countRange post (N, th, va, tc, op, se, vv, ow, rk, si) p (nI lo) (nI hi) := by
  unfold wpY_countRange
  refine ym_tr_t hp (br_f ml_10 (ym_ky_t (vp_in_nI (by omega) (by decide)) (br_f ml_10 (ym_ky_t (vp_in_nI hh (by decide)) (br_f ml_10 (br_t (nI_le hl (by omega)) ⟨hp, br_f ho ⟨hi + 1 - lo + 1, ?_⟩⟩))))))
  have g := ym_crL (post := post) (N := N) (th := th) (va := va) (tc := tc) (vv := vv) (ow := ow) (si := si) (rk := rk) (lo := lo) hh hp ho hse (hi + 1 - lo) 0 rk (by omega) (by
    show rk = upd rk p.toNatClampNeg (rk p.toNatClampNeg ||| 0)
    rw [Int32.or_zero, ml_us]) (by rw [Nat.zero_add]; exact h)
  have e : ml_pc (V &&& ml_rg lo 0) = 0 := by
    show ml_pc (V &&& 0) = 0
    rw [Int32.and_zero, ml_pc_0]
  rw [e] at g
  exact g
/-! abort -/
theorem ym_ab_b {post : Int32 → SY → Prop} (hp : ¬ vp_in p 4) (h : post (-1) (N, th, va, tc, op, se, vv, ow, rk, si)) : wpY_abort post (N, th, va, tc, op, se, vv, ow, rk, si) p := by
  unfold wpY_abort
  exact ym_tr_f hp (br_t rfl h)
theorem ym_ab_c {post : Int32 → SY → Prop} (hp : vp_in p 4) (ho : op p.toNatClampNeg = 0) (h : post (-3) (N, th, va, tc, op, se, vv, ow, rk, si)) : wpY_abort post (N, th, va, tc, op, se, vv, ow, rk, si) p := by
  unfold wpY_abort
  exact ym_tr_t hp (br_f ml_10 ⟨hp, br_t ho h⟩)
theorem ym_ab_o {post : Int32 → SY → Prop} (hp : vp_in p 4) (ho : ¬ op p.toNatClampNeg = 0) (h : post (nI (ml_pc (ow p.toNatClampNeg))) (N, th, va, tc, upd op p.toNatClampNeg (vp_nar .boolean 0), se, vv, ow, rk, si)) : wpY_abort post (N, th, va, tc, op, se, vv, ow, rk, si) p := by
  unfold wpY_abort
  exact ym_tr_t hp (br_f ml_10 ⟨hp, br_f ho ⟨hp, nm_e ⟨hp, ym_ck h⟩⟩⟩)
end
end
section
/-! ===== Y: commit; has, at, size, changed ===== -/
section
variable {N : Int32} {op vv ow rk th va tc se si : Nat → Int32} {p q x y : Int32}
theorem ml_cy {a : Nat} (ha : a < 6) {k : Nat} (hk : k < 32) : (nI (32 * a) + nI k).toNatClampNeg = 32 * a + k ∧ vp_in (nI (32 * a) + nI k) 192 := by
  rw [nI_add, nI_clamp (by omega)]
  exact ⟨rfl, vp_in_nI (by omega) (by decide)⟩
theorem ym_snL {post : Int32 → SY → Prop} (hp : vp_in p 4) (h : post N (N, th, va, tc, op, se, vv, ow, rk, ml_or si (ow p.toNatClampNeg) 4)) : ∀ d i, i + d = 4 → wY_commit_207 post p N (d + 1) (nI i) th va tc op se vv ow rk (ml_or si (ow p.toNatClampNeg) i) := by
  intro d
  induction d with
  | zero =>
    intro i hi
    obtain rfl : i = 4 := by omega
    exact br_t (by decide +kernel : (4 : Int32) ≤ nI 4) h
  | succ d ih =>
    intro i hi
    have hl : i < 4 := by omega
    have hv : vp_in (nI i) 4 := vp_in_nI hl (by decide)
    exact br_f (nI_ge (b := 4) hl (by decide)) ⟨hv, hp, hv, nm_r (e' := ml_or si (ow p.toNatClampNeg) (i + 1)) (by rw [nI_clamp (by omega)]; exact ml_orS _ _ _) (nm_r (nI_1 i) (ih (i + 1) (by omega)))⟩
theorem ym_coL {post : Int32 → SY → Prop} (hp : vp_in p 4) {n : Nat} (hn : n + 1 < 2 ^ 31)
    (hb : ∀ k, k < 32 → vp_nar .boolean (ml_mx (ow p.toNatClampNeg) se (32 * p.toNatClampNeg) th (32 * (n % 6)) k) = ml_mx (ow p.toNatClampNeg) se (32 * p.toNatClampNeg) th (32 * (n % 6)) k)
    (h : post (nI (n + 1)) (nI (n + 1), ml_cp th (32 * ((n + 1) % 6)) (ml_mx (ow p.toNatClampNeg) se (32 * p.toNatClampNeg) th (32 * (n % 6))) 32, ml_cp va (32 * ((n + 1) % 6)) (ml_mx (ow p.toNatClampNeg) vv (32 * p.toNatClampNeg) va (32 * (n % 6))) 32, upd tc ((n + 1) % 6) (ow p.toNatClampNeg), op, se, vv, ow, rk, ml_or si (ow p.toNatClampNeg) 4)) :
    ∀ d i, i + d = 32 → wY_commit_83 post p (nI (32 * (n % 6))) (nI (32 * ((n + 1) % 6))) (nI (n + 1)) (d + 1) (nI i) (ml_cp th (32 * ((n + 1) % 6)) (ml_mx (ow p.toNatClampNeg) se (32 * p.toNatClampNeg) th (32 * (n % 6))) i) (ml_cp va (32 * ((n + 1) % 6)) (ml_mx (ow p.toNatClampNeg) vv (32 * p.toNatClampNeg) va (32 * (n % 6))) i) tc op se vv ow rk si := by
  have ha : n % 6 < 6 := Nat.mod_lt _ (by decide)
  have hc : (n + 1) % 6 < 6 := Nat.mod_lt _ (by decide)
  intro d
  induction d with
  | zero =>
    intro i hi
    obtain rfl : i = 32 := by omega
    refine br_t ml_32 ⟨ml_60, hp, (ml_r6 hn).2, nm_r (e' := upd tc ((n + 1) % 6) (ow p.toNatClampNeg)) (by rw [(ml_r6 hn).1]) ⟨5, ?_⟩⟩
    have g := ym_snL (post := post) (si := si) hp h 4 0 rfl
    rw [ml_or0] at g
    exact g
  | succ d ih =>
    intro i hi
    have hl : i < 32 := by omega
    have g := ih (i + 1) (by omega)
    refine br_f (ml_l32 hl) ⟨hp, ym_in hl ?_⟩
    cases hw : bt (ow p.toNatClampNeg) i
    · refine br_t rfl ⟨(ml_cy ha hl).2, ?_⟩
      unfold wY_commit_141
      refine ⟨(ml_cy hc hl).2, nm_r (e' := ml_cp th (32 * ((n + 1) % 6)) (ml_mx (ow p.toNatClampNeg) se (32 * p.toNatClampNeg) th (32 * (n % 6))) (i + 1)) ?_ (br_t rfl ⟨(ml_cy ha hl).2, (ml_cy hc hl).2, nm_r (e' := ml_cp va (32 * ((n + 1) % 6)) (ml_mx (ow p.toNatClampNeg) vv (32 * p.toNatClampNeg) va (32 * (n % 6))) (i + 1)) ?_ (nm_r (nI_1 i) g)⟩)⟩
      · rw [(ml_cy ha hl).1, (ml_cy hc hl).1, ml_cp_out _ _ _ (by omega), ← ml_mx_f (w := ow p.toNatClampNeg) (a := se) (d := 32 * p.toNatClampNeg) (b := th) (e := 32 * (n % 6)) hw, hb i hl]
        exact ml_cpS _ _ _ _
      · rw [(ml_cy ha hl).1, (ml_cy hc hl).1, ml_cp_out _ _ _ (by omega), ← ml_mx_f (w := ow p.toNatClampNeg) (a := vv) (d := 32 * p.toNatClampNeg) (b := va) (e := 32 * (n % 6)) hw]
        exact ml_cpS _ _ _ _
    · refine br_f (by decide) ⟨(ml_vy hp hl).2, ?_⟩
      unfold wY_commit_141
      refine ⟨(ml_cy hc hl).2, nm_r (e' := ml_cp th (32 * ((n + 1) % 6)) (ml_mx (ow p.toNatClampNeg) se (32 * p.toNatClampNeg) th (32 * (n % 6))) (i + 1)) ?_ (br_f (by decide) ⟨(ml_vy hp hl).2, (ml_cy hc hl).2, nm_r (e' := ml_cp va (32 * ((n + 1) % 6)) (ml_mx (ow p.toNatClampNeg) vv (32 * p.toNatClampNeg) va (32 * (n % 6))) (i + 1)) ?_ (nm_r (nI_1 i) g)⟩)⟩
      · rw [(ml_vy hp hl).1, (ml_cy hc hl).1, ← ml_mx_t (w := ow p.toNatClampNeg) (a := se) (d := 32 * p.toNatClampNeg) (b := th) (e := 32 * (n % 6)) hw, hb i hl]
        exact ml_cpS _ _ _ _
      · rw [(ml_vy hp hl).1, (ml_cy hc hl).1, ← ml_mx_t (w := ow p.toNatClampNeg) (a := vv) (d := 32 * p.toNatClampNeg) (b := va) (e := 32 * (n % 6)) hw]
        exact ml_cpS _ _ _ _
theorem ym_co_b {post : Int32 → SY → Prop} (hp : ¬ vp_in p 4) (h : post (-1) (N, th, va, tc, op, se, vv, ow, rk, si)) : wpY_commit post (N, th, va, tc, op, se, vv, ow, rk, si) p := by
  unfold wpY_commit
  exact ym_tr_f hp (br_t rfl h)
theorem ym_co_c {post : Int32 → SY → Prop} (hp : vp_in p 4) (ho : op p.toNatClampNeg = 0) (h : post (-3) (N, th, va, tc, op, se, vv, ow, rk, si)) : wpY_commit post (N, th, va, tc, op, se, vv, ow, rk, si) p := by
  unfold wpY_commit
  exact ym_tr_t hp (br_f ml_10 ⟨hp, br_t ho h⟩)
theorem ym_co_x {post : Int32 → SY → Prop} (hp : vp_in p 4) (ho : ¬ op p.toNatClampNeg = 0) (hx : ¬ rk p.toNatClampNeg &&& si p.toNatClampNeg = 0) (h : post (-5) (N, th, va, tc, upd op p.toNatClampNeg (vp_nar .boolean 0), se, vv, ow, rk, si)) : wpY_commit post (N, th, va, tc, op, se, vv, ow, rk, si) p := by
  unfold wpY_commit
  exact ym_tr_t hp (br_f ml_10 ⟨hp, br_f ho ⟨hp, nm_e ⟨hp, hp, br_f hx h⟩⟩⟩)
theorem ym_co {post : Int32 → SY → Prop} {n : Nat} (hn : n + 1 < 2 ^ 31) (hp : vp_in p 4) (ho : ¬ op p.toNatClampNeg = 0) (hx : rk p.toNatClampNeg &&& si p.toNatClampNeg = 0)
    (hb : ∀ k, k < 32 → vp_nar .boolean (ml_mx (ow p.toNatClampNeg) se (32 * p.toNatClampNeg) th (32 * (n % 6)) k) = ml_mx (ow p.toNatClampNeg) se (32 * p.toNatClampNeg) th (32 * (n % 6)) k)
    (h : post (nI (n + 1)) (nI (n + 1), ml_cp th (32 * ((n + 1) % 6)) (ml_mx (ow p.toNatClampNeg) se (32 * p.toNatClampNeg) th (32 * (n % 6))) 32, ml_cp va (32 * ((n + 1) % 6)) (ml_mx (ow p.toNatClampNeg) vv (32 * p.toNatClampNeg) va (32 * (n % 6))) 32, upd tc ((n + 1) % 6) (ow p.toNatClampNeg), upd op p.toNatClampNeg (vp_nar .boolean 0), se, vv, ow, rk, ml_or si (ow p.toNatClampNeg) 4)) : wpY_commit post (nI n, th, va, tc, op, se, vv, ow, rk, si) p := by
  unfold wpY_commit
  refine ym_tr_t hp (br_f ml_10 ⟨hp, br_f ho ⟨hp, nm_e ⟨hp, hp, br_t hx ⟨ml_60, nm_r (e' := nI (32 * (n % 6))) ?_ (nm_r (nI_1 n) ⟨ml_60, nm_r (e' := nI (32 * ((n + 1) % 6))) ?_ ⟨33, ?_⟩⟩)⟩⟩⟩⟩)
  · rw [ml_rem6 n (by omega)]
    exact pk_mul 32 _
  · rw [ml_rem6 (n + 1) hn]
    exact pk_mul 32 _
  · have g := ym_coL (post := post) (va := va) (tc := tc) (vv := vv) (rk := rk) (si := si) (op := upd op p.toNatClampNeg (vp_nar .boolean 0)) hp hn hb h 32 0 rfl
    rw [ml_cp0, ml_cp0] at g
    exact g
/-! exists, isKept and what rests on them -/
theorem ym_is_t {post : Int32 → Prop} {n : Nat} (hs : ml_St n x) (h : post 1) : wpY_exists post (nI n, th, va, tc, op, se, vv, ow, rk, si) x := br_f hs.1 (br_f hs.2 h)
theorem ym_is_f {post : Int32 → Prop} {n : Nat} (hs : ¬ ml_St n x) (h : post 0) : wpY_exists post (nI n, th, va, tc, op, se, vv, ow, rk, si) x := by
  by_cases h0 : x < 0
  · exact br_t h0 h
  · by_cases h1 : nI n < x
    · exact br_f h0 (br_t h1 h)
    · exact absurd ⟨h0, h1⟩ hs
theorem ym_ik_t {post : Int32 → Prop} {n : Nat} (hs : ml_Kp n x) (h : post 1) : wpY_isKept post (nI n, th, va, tc, op, se, vv, ow, rk, si) x := by
  unfold wpY_isKept
  exact ym_is_t hs.1 (br_f ml_10 (br_f hs.2 h))
theorem ym_ik_f {post : Int32 → Prop} {n : Nat} (hs : ¬ ml_Kp n x) (h : post 0) : wpY_isKept post (nI n, th, va, tc, op, se, vv, ow, rk, si) x := by
  unfold wpY_isKept
  by_cases h0 : ml_St n x
  · by_cases h1 : x ≤ nI n - 6
    · exact ym_is_t h0 (br_f ml_10 (br_t h1 h))
    · exact absurd ⟨h0, h1⟩ hs
  · exact ym_is_f h0 (br_t rfl h)
theorem ym_ha_n {post : Int32 → Prop} {n : Nat} (hs : ¬ (ml_Kp n x ∧ vp_in y 32)) (h : post 0) : wpY_has post (nI n, th, va, tc, op, se, vv, ow, rk, si) x y := by
  unfold wpY_has
  by_cases hx : ml_Kp n x
  · exact ym_ik_t hx (br_f ml_10 (ym_ky_f (fun z => hs ⟨hx, z⟩) (br_t rfl h)))
  · exact ym_ik_f hx (br_t rfl h)
theorem ym_ha_o {post : Int32 → Prop} {n s k : Nat} (hs : ml_Kp n (nI s)) (hs' : s < 2 ^ 31) (hk : k < 32) {b : Bool} (hb : th (32 * (s % 6) + k) = ml_b b) (h : post (ml_b b)) : wpY_has post (nI n, th, va, tc, op, se, vv, ow, rk, si) (nI s) (nI k) := by
  unfold wpY_has
  refine ym_ik_t hs (br_f ml_10 (ym_ky_t (vp_in_nI hk (by decide)) (br_f ml_10 ⟨ml_60, (ml_ry hs' hk).2, ?_⟩)))
  rw [(ml_ry hs' hk).1, hb]
  cases b
  · exact br_t rfl h
  · exact br_f (by decide) h
theorem ym_at_n {post : Int32 → Prop} {n : Nat} (hs : ¬ (ml_Kp n x ∧ vp_in y 32)) (h : post 0) : wpY_at post (nI n, th, va, tc, op, se, vv, ow, rk, si) x y := by
  unfold wpY_at
  exact ym_ha_n hs (br_t rfl h)
theorem ym_at_o {post : Int32 → Prop} {n s k : Nat} (hs : ml_Kp n (nI s)) (hs' : s < 2 ^ 31) (hk : k < 32) {b : Bool} (hb : th (32 * (s % 6) + k) = ml_b b) (hz : b = false → va (32 * (s % 6) + k) = 0) (h : post (va (32 * (s % 6) + k))) : wpY_at post (nI n, th, va, tc, op, se, vv, ow, rk, si) (nI s) (nI k) := by
  unfold wpY_at
  refine ym_ha_o hs hs' hk hb ?_
  cases b
  · rw [hz rfl] at h
    exact br_t rfl h
  · refine br_f (by decide) ⟨ml_60, (ml_ry hs' hk).2, ?_⟩
    rw [(ml_ry hs' hk).1]
    exact h
theorem ym_szL {post : Int32 → Prop} {n s : Nat} (hs : ml_Kp n (nI s)) (hs' : s < 2 ^ 31) {V : Int32} (ht : ∀ k, k < 32 → th (32 * (s % 6) + k) = ml_b (bt V k)) : ∀ d i, i + d = 32 → post (nI (ml_pc V)) → wY_size_25 post (nI s) (nI n) th va tc op se vv ow rk si (d + 1) (nI (ml_cnt (bt V) i)) (nI i) := by
  intro d
  induction d with
  | zero =>
    intro i hi h
    obtain rfl : i = 32 := by omega
    exact br_t ml_32 h
  | succ d ih =>
    intro i hi h
    have hl : i < 32 := by omega
    refine br_f (ml_l32 hl) (ym_ha_o hs hs' hl (ht i hl) ?_)
    have g := ih (i + 1) (by omega) h
    have e : ml_cnt (bt V) (i + 1) = ml_cnt (bt V) i + (if bt V i then 1 else 0) := rfl
    cases hb : bt V i
    · rw [e, hb] at g
      exact br_t rfl (nm_r (nI_1 i) g)
    · rw [e, hb] at g
      exact br_f (by decide) (nm_r (nI_1 _) (nm_r (nI_1 i) g))
theorem ym_sz_b {post : Int32 → Prop} {n : Nat} (hs : ¬ ml_St n x) (h : post (-1)) : wpY_size post (nI n, th, va, tc, op, se, vv, ow, rk, si) x := by
  unfold wpY_size
  exact ym_is_f hs (br_t rfl h)
theorem ym_sz_g {post : Int32 → Prop} {n : Nat} (hs : ml_St n x) (hk : ¬ ml_Kp n x) (h : post (-6)) : wpY_size post (nI n, th, va, tc, op, se, vv, ow, rk, si) x := by
  unfold wpY_size
  exact ym_is_t hs (br_f ml_10 (ym_ik_f hk (br_t rfl h)))
theorem ym_sz_o {post : Int32 → Prop} {n s : Nat} (hs : ml_Kp n (nI s)) (hs' : s < 2 ^ 31) {V : Int32} (ht : ∀ k, k < 32 → th (32 * (s % 6) + k) = ml_b (bt V k)) (h : post (nI (ml_pc V))) : wpY_size post (nI n, th, va, tc, op, se, vv, ow, rk, si) (nI s) := by
  unfold wpY_size
  exact ym_is_t hs.1 (br_f ml_10 (ym_ik_t hs (br_f ml_10 ⟨33, ym_szL hs hs' ht 32 0 rfl h⟩)))
theorem ym_cdL {post : Int32 → Prop} {a b : Nat} (hb : b < 2 ^ 30) : ∀ d i, a + i + d = b → post (nI (ml_pc (ml_un tc 6 a (i + d)))) → wY_changed_49 post (nI b) N th va tc op se vv ow rk si (d + 1) (ml_un tc 6 a i) (nI (a + i + 1)) := by
  intro d
  induction d with
  | zero =>
    intro i hi h
    exact br_t (nI_lt (by omega) (by omega)) (ym_ck h)
  | succ d ih =>
    intro i hi h
    have g := ih (i + 1) (by omega) (by rw [show i + 1 + d = i + (d + 1) by omega]; exact h)
    have hm : a + i + 1 < 2 ^ 31 := by omega
    exact br_f (nI_nlt (by omega) (by omega)) ⟨ml_60, (ml_r6 hm).2, nm_r (e' := ml_un tc 6 a (i + 1)) (by rw [(ml_r6 hm).1]; rfl) (nm_r (nI_1 (a + i + 1)) g)⟩
theorem ym_cd_x {post : Int32 → Prop} {n : Nat} (hs : ¬ (ml_St n x ∧ ml_St n y ∧ x < y)) (h : post (-1)) : wpY_changed post (nI n, th, va, tc, op, se, vv, ow, rk, si) x y := by
  unfold wpY_changed
  by_cases hx : ml_St n x
  · by_cases hy : ml_St n y
    · exact ym_is_t hx (br_f ml_10 (ym_is_t hy (br_f ml_10 (br_f (fun z => hs ⟨hx, hy, z⟩) h))))
    · exact ym_is_t hx (br_f ml_10 (ym_is_f hy (br_t rfl h)))
  · exact ym_is_f hx (br_t rfl h)
theorem ym_cd_g {post : Int32 → Prop} {n : Nat} (hs : ml_St n x ∧ ml_St n y ∧ x < y) (hk : ¬ (ml_Kp n x ∧ ml_Kp n y)) (h : post (-6)) : wpY_changed post (nI n, th, va, tc, op, se, vv, ow, rk, si) x y := by
  unfold wpY_changed
  refine ym_is_t hs.1 (br_f ml_10 (ym_is_t hs.2.1 (br_f ml_10 (br_t hs.2.2 ?_))))
  by_cases hx : ml_Kp n x
  · exact ym_ik_t hx (br_f ml_10 (ym_ik_f (fun z => hk ⟨hx, z⟩) (br_t rfl h)))
  · exact ym_ik_f hx (br_t rfl h)
theorem ym_cd_o {post : Int32 → Prop} {n a b : Nat} (hb : b < 2 ^ 30) (hl : a < b) (ha' : ml_Kp n (nI a)) (hb' : ml_Kp n (nI b)) (h : post (nI (ml_pc (ml_un tc 6 a (b - a))))) : wpY_changed post (nI n, th, va, tc, op, se, vv, ow, rk, si) (nI a) (nI b) := by
  unfold wpY_changed
  refine ym_is_t ha'.1 (br_f ml_10 (ym_is_t hb'.1 (br_f ml_10 (br_t (nI_lt hl (by omega)) ?_))))
  exact ym_ik_t ha' (br_f ml_10 (ym_ik_t hb' (br_f ml_10 (nm_r (nI_1 a) ⟨b - a + 1, ym_cdL hb (b - a) 0 (by omega) (by rw [Nat.zero_add]; exact h)⟩))))
end
end
section
/-! ===== what is owed, a method at a time ===== -/
theorem xm_rk_x {post : Int32 → Prop} {N : Int32} {sk sv sc lc op bs vk vv ow rk : Nat → Int32} {p q : Int32} (hs : ¬ (vp_in p 4 ∧ vp_in q 32)) (h : post (-1)) : wpX_refuseKey post (N, sk, sv, sc, lc, op, bs, vk, vv, ow, rk) p q := by
  by_cases hp : vp_in p 4
  · exact xm_rk_k (fun z => hs ⟨hp, z⟩) h
  · exact xm_rk_b hp h
theorem i_vc_begin {k : Nat} {u : SX} {v : SY} (I : i_Rel k u v) (hk : k + 4 ≤ 2048) (v1 : Int32) : wpX_begin (fun r u' => wpY_begin (fun r' v' => r' = r ∧ i_Rel (k + 4) u' v') v v1) u v1 := by
  have J := i_up I
  obtain ⟨n, sk, sv, sc, lc, op, bs, vk, vv, ow, rk, th, va, tc, se, si, hn, rfl, rfl, R⟩ := I
  by_cases hp : vp_in v1 4
  · by_cases ho : op v1.toNatClampNeg = 0
    · refine xm_begin (by omega) hp ho (ym_begin (by omega) hp ho ?_ ⟨rfl, ?_⟩)
      · intro j hj
        rw [(R.1 n j (Nat.le_refl n) (by omega) hj).1, ml_bz]
      · rw [ml_cp_f vv (32 * v1.toNatClampNeg) (f := fun j => sv (n % 8 * 32 + j)) (g := fun j => va (32 * (n % 6) + j)) (fun i hi => (R.1 n i (Nat.le_refl n) (by omega) hi).2.1)]
        exact ⟨n, _, _, _, _, _, _, _, _, _, _, _, _, _, _, _, by omega, rfl, rfl, ml_R_begin R (ml_p4 hp)⟩
    · exact xm_begin_o hp ho (ym_begin_o hp ho ⟨rfl, J⟩)
  · exact xm_begin_b hp (ym_begin_b hp ⟨rfl, J⟩)
/-- write and erase: one answer and two related states, whatever is asked of them -/
theorem ml_give {k : Nat} {u : SX} {v : SY} (I : i_Rel k u v) (v1 v2 w : Int32) (b : Bool) (hw : b = false → w = 0) : ∃ (r : Int32) (u' : SX) (v' : SY), (∀ P : Int32 → SX → Prop, P r u' → wpX_change P u v1 v2 (ml_b b) w) ∧ (∀ P : Int32 → SY → Prop, P r v' → wpY_give P v v1 v2 (ml_b b) w) ∧ i_Rel (k + 4) u' v' := by
  have J := i_up I
  obtain ⟨n, sk, sv, sc, lc, op, bs, vk, vv, ow, rk, th, va, tc, se, si, hn, rfl, rfl, R⟩ := I
  by_cases hs : vp_in v1 4 ∧ vp_in v2 32
  · obtain ⟨hp, hq⟩ := hs
    obtain ⟨key, hy, rfl⟩ := vp_in_of hq (by decide)
    by_cases ho : op v1.toNatClampNeg = 0
    · exact ⟨-3, _, _, fun P h => xm_ch_n (by decide) (fun P' h' => xm_rc_n (by decide) (fun P'' h'' => xm_rk_c hq hp ho h'') h') h, fun P h => ym_gi_c hp hq ho h, J⟩
    · by_cases hc : bt (ow v1.toNatClampNeg) key = true ∨ ml_pc (ow v1.toNatClampNeg) < 6
      · refine ⟨_, _, _, fun P h => xm_ch_o hy hp ho hc h, fun P h => ym_gi_o hy hp ho hc b h, n, _, _, _, _, _, _, _, _, _, _, _, _, _, _, _, by omega, rfl, rfl, ml_R_give R (ml_p4 hp) hy hc ?_ hw⟩
        intro i hi
        cases b
        · exact ml_put0 _ _ hy _ hi
        · exact ml_put1 _ _ hy _ hi
      · have h6 := R.2.2.2.2.2.2 _ (ml_p4 hp)
        have hb : bt (ow v1.toNatClampNeg) key = false := by
          cases hb : bt (ow v1.toNatClampNeg) key
          · rfl
          · exact absurd (Or.inl hb) hc
        have h7 : ¬ ml_pc (ow v1.toNatClampNeg) < 6 := fun z => hc (Or.inr z)
        exact ⟨-4, _, _, fun P h => xm_ch_n (by decide) (fun P' h' => xm_rc_f hy hp ho hb (by omega) h') h, fun P h => ym_gi_f hy hp ho hb (by omega) h, J⟩
  · exact ⟨-1, _, _, fun P h => xm_ch_n (by decide) (fun P' h' => xm_rc_n (by decide) (fun P'' h'' => xm_rk_x hs h'') h') h, fun P h => ym_gi_b hs h, J⟩
theorem i_vc_write {k : Nat} {u : SX} {v : SY} (I : i_Rel k u v) (hk : k + 4 ≤ 2048) (v1 : Int32) (v2 : Int32) (v3 : Int32) : wpX_write (fun r u' => wpY_write (fun r' v' => r' = r ∧ i_Rel (k + 4) u' v') v v1 v2 v3) u v1 v2 v3 := by
  obtain ⟨r, u', v', hX, hY, J⟩ := ml_give I v1 v2 v3 true (fun z => absurd z (by decide))
  obtain ⟨a0, a1, a2, a3, a4, a5, a6, a7, a8, a9, a10⟩ := u
  obtain ⟨b0, b1, b2, b3, b4, b5, b6, b7, b8, b9⟩ := v
  unfold wpX_write wpY_write
  refine hX _ ?_
  refine hY _ ?_
  exact ⟨rfl, J⟩
theorem i_vc_erase {k : Nat} {u : SX} {v : SY} (I : i_Rel k u v) (hk : k + 4 ≤ 2048) (v1 : Int32) (v2 : Int32) : wpX_erase (fun r u' => wpY_erase (fun r' v' => r' = r ∧ i_Rel (k + 4) u' v') v v1 v2) u v1 v2 := by
  obtain ⟨r, u', v', hX, hY, J⟩ := ml_give I v1 v2 0 false (fun _ => rfl)
  obtain ⟨a0, a1, a2, a3, a4, a5, a6, a7, a8, a9, a10⟩ := u
  obtain ⟨b0, b1, b2, b3, b4, b5, b6, b7, b8, b9⟩ := v
  unfold wpX_erase wpY_erase
  refine hX _ ?_
  refine hY _ ?_
  exact ⟨rfl, J⟩
theorem i_vc_read {k : Nat} {u : SX} {v : SY} (I : i_Rel k u v) (hk : k + 4 ≤ 2048) (v1 : Int32) (v2 : Int32) : wpX_read (fun r u' => wpY_read (fun r' v' => r' = r ∧ i_Rel (k + 4) u' v') v v1 v2) u v1 v2 := by
  have J := i_up I
  obtain ⟨n, sk, sv, sc, lc, op, bs, vk, vv, ow, rk, th, va, tc, se, si, hn, rfl, rfl, R⟩ := I
  by_cases hs : vp_in v1 4 ∧ vp_in v2 32
  · obtain ⟨hp, hq⟩ := hs
    obtain ⟨key, hy, rfl⟩ := vp_in_of hq (by decide)
    by_cases ho : op v1.toNatClampNeg = 0
    · exact xm_rd_n (by decide) (fun P h => xm_rk_c hq hp ho h) (ym_rd_c hp hq ho ⟨rfl, J⟩)
    · exact xm_rd_o hy hp ho (ym_rd_o hy hp ho (R.2.2.1 _ key (ml_p4 hp) hy).1 ⟨rfl, n, _, _, _, _, _, _, _, _, _, _, _, _, _, _, _, by omega, rfl, rfl, R⟩)
  · exact xm_rd_n (by decide) (fun P h => xm_rk_x hs h) (ym_rd_b hs ⟨rfl, J⟩)
theorem i_vc_peek {k : Nat} {u : SX} {v : SY} (I : i_Rel k u v) (hk : k + 4 ≤ 2048) (v1 : Int32) (v2 : Int32) : wpX_peek (fun r => wpY_peek (fun r' => r' = r ∧ i_Rel (k + 4) u v) v v1 v2) u v1 v2 := by
  have J := i_up I
  obtain ⟨n, sk, sv, sc, lc, op, bs, vk, vv, ow, rk, th, va, tc, se, si, hn, rfl, rfl, R⟩ := I
  by_cases hs : vp_in v1 4 ∧ vp_in v2 32
  · obtain ⟨hp, hq⟩ := hs
    obtain ⟨key, hy, rfl⟩ := vp_in_of hq (by decide)
    by_cases ho : op v1.toNatClampNeg = 0
    · exact xm_pe_n (r := -3) (by decide) (fun P h => xm_rk_c hq hp ho h) (ym_pe_c hp hq ho ⟨rfl, J⟩)
    · exact xm_pe_o hy hp ho (ym_pe_o hy hp ho (R.2.2.1 _ key (ml_p4 hp) hy).1 (R.2.2.1 _ key (ml_p4 hp) hy).2 ⟨rfl, J⟩)
  · exact xm_pe_n (r := -1) (by decide) (fun P h => xm_rk_x hs h) (ym_pe_b hs ⟨rfl, J⟩)
theorem i_vc_countRange {k : Nat} {u : SX} {v : SY} (I : i_Rel k u v) (hk : k + 4 ≤ 2048) (v1 : Int32) (v2 : Int32) (v3 : Int32) : wpX_countRange (fun r u' => wpY_countRange (fun r' v' => r' = r ∧ i_Rel (k + 4) u' v') v v1 v2 v3) u v1 v2 v3 := by
  have J := i_up I
  obtain ⟨n, sk, sv, sc, lc, op, bs, vk, vv, ow, rk, th, va, tc, se, si, hn, rfl, rfl, R⟩ := I
  by_cases hs : vp_in v1 4 ∧ vp_in v2 32 ∧ vp_in v3 32 ∧ v2 ≤ v3
  · have hs' := hs
    obtain ⟨hp, hx, hy, hl⟩ := hs
    by_cases ho : op v1.toNatClampNeg = 0
    · exact xm_cr_n (by decide) hx hy hl (fun P h => xm_rt_c hp ho h) (ym_cr_c hs' ho ⟨rfl, J⟩)
    · obtain ⟨lo, hlo, rfl⟩ := vp_in_of hx (by decide)
      obtain ⟨hi, hhi, rfl⟩ := vp_in_of hy (by decide)
      rw [nI_leI (by omega) (by omega)] at hl
      exact xm_cr_o hhi hl hp ho (ym_cr_o hhi hl hp ho (fun j hj => (R.2.2.1 _ j (ml_p4 hp) hj).1) ⟨rfl, n, _, _, _, _, _, _, _, _, _, _, _, _, _, _, _, by omega, rfl, rfl, R⟩)
  · have hY := ym_cr_b (post := fun r' v' => r' = -1 ∧ i_Rel (k + 4) (nI n, sk, sv, sc, lc, op, bs, vk, vv, ow, rk) v') hs ⟨rfl, J⟩
    by_cases hx : vp_in v2 32
    · by_cases hy : vp_in v3 32
      · by_cases hl : v2 ≤ v3
        · exact xm_cr_n (by decide) hx hy hl (fun P h => xm_rt_b (fun z => hs ⟨z, hx, hy, hl⟩) h) hY
        · exact xm_cr_g hx hy hl hY
      · exact xm_cr_h hy hY
    · exact xm_cr_l hx hY
theorem i_vc_commit {k : Nat} {u : SX} {v : SY} (I : i_Rel k u v) (hk : k + 4 ≤ 2048) (v1 : Int32) : wpX_commit (fun r u' => wpY_commit (fun r' v' => r' = r ∧ i_Rel (k + 4) u' v') v v1) u v1 := by
  have J := i_up I
  obtain ⟨n, sk, sv, sc, lc, op, bs, vk, vv, ow, rk, th, va, tc, se, si, hn, rfl, rfl, R⟩ := I
  by_cases hp : vp_in v1 4
  · by_cases ho : op v1.toNatClampNeg = 0
    · exact xm_co_n (by decide) (fun P h => xm_rt_c hp ho h) (ym_co_c hp ho ⟨rfl, J⟩)
    · have h4 := ml_p4 hp
      have r6 := R.2.2.2.2.2.1
      refine xm_co (by omega) hp ho ?_ ?_
      · intro key hy a b
        exact ym_co_x hp ho (fun z => (ml_meet _ _).mp z key hy ⟨a, (r6 _ key h4 hy).mpr b⟩) ⟨rfl, n, _, _, _, _, _, _, _, _, _, _, _, _, _, _, _, by omega, rfl, rfl, R⟩
      · intro a
        refine ym_co (by omega) hp ho ((ml_meet _ _).mpr (fun key hy z => a key hy ⟨z.1, (r6 _ key h4 hy).mp z.2⟩)) ?_ ⟨rfl, n + 1, _, _, _, _, _, _, _, _, _, _, _, _, _, _, _, by omega, rfl, rfl, ml_R_commit R (by omega) h4 (fun _ _ => rfl) (fun _ _ => rfl) (fun _ _ => rfl)⟩
        intro key hy
        cases hb : bt (ow v1.toNatClampNeg) key
        · rw [ml_mx_f hb, (R.1 n key (Nat.le_refl n) (by omega) hy).1, ml_bz]
        · rw [ml_mx_t hb, (R.2.2.1 _ key h4 hy).1, ml_bz]
  · exact xm_co_n (by decide) (fun P h => xm_rt_b hp h) (ym_co_b hp ⟨rfl, J⟩)
theorem i_vc_abort {k : Nat} {u : SX} {v : SY} (I : i_Rel k u v) (hk : k + 4 ≤ 2048) (v1 : Int32) : wpX_abort (fun r u' => wpY_abort (fun r' v' => r' = r ∧ i_Rel (k + 4) u' v') v v1) u v1 := by
  have J := i_up I
  obtain ⟨n, sk, sv, sc, lc, op, bs, vk, vv, ow, rk, th, va, tc, se, si, hn, rfl, rfl, R⟩ := I
  by_cases hp : vp_in v1 4
  · by_cases ho : op v1.toNatClampNeg = 0
    · exact xm_ab_n (by decide) (fun P h => xm_rt_c hp ho h) (ym_ab_c hp ho ⟨rfl, J⟩)
    · exact xm_ab_o hp ho (ym_ab_o hp ho ⟨rfl, n, _, _, _, _, _, _, _, _, _, _, _, _, _, _, _, by omega, rfl, rfl, R⟩)
  · exact xm_ab_n (by decide) (fun P h => xm_rt_b hp h) (ym_ab_b hp ⟨rfl, J⟩)
theorem i_vc_latest {k : Nat} {u : SX} {v : SY} (I : i_Rel k u v) (hk : k + 4 ≤ 2048) : wpX_latest (fun r => wpY_latest (fun r' => r' = r ∧ i_Rel (k + 4) u v) v) u := by
  have J := i_up I
  obtain ⟨n, sk, sv, sc, lc, op, bs, vk, vv, ow, rk, th, va, tc, se, si, hn, rfl, rfl, R⟩ := I
  exact ⟨rfl, J⟩
theorem i_vc_has {k : Nat} {u : SX} {v : SY} (I : i_Rel k u v) (hk : k + 4 ≤ 2048) (v1 : Int32) (v2 : Int32) : wpX_has (fun r => wpY_has (fun r' => r' = r ∧ i_Rel (k + 4) u v) v v1 v2) u v1 v2 := by
  have J := i_up I
  obtain ⟨n, sk, sv, sc, lc, op, bs, vk, vv, ow, rk, th, va, tc, se, si, hn, rfl, rfl, R⟩ := I
  by_cases hs : ml_Kp n v1 ∧ vp_in v2 32
  · obtain ⟨hx, hq⟩ := hs
    obtain ⟨key, hy, rfl⟩ := vp_in_of hq (by decide)
    obtain ⟨s, rfl, h1, h2⟩ := ml_Kp_e (by omega) hx
    exact xm_ha_o hx (by omega) hy (ym_ha_o hx (by omega) hy (R.1 s key h1 h2 hy).1 ⟨rfl, J⟩)
  · exact xm_ha_n hs (ym_ha_n hs ⟨rfl, J⟩)
theorem i_vc_at {k : Nat} {u : SX} {v : SY} (I : i_Rel k u v) (hk : k + 4 ≤ 2048) (v1 : Int32) (v2 : Int32) : wpX_at (fun r => wpY_at (fun r' => r' = r ∧ i_Rel (k + 4) u v) v v1 v2) u v1 v2 := by
  have J := i_up I
  obtain ⟨n, sk, sv, sc, lc, op, bs, vk, vv, ow, rk, th, va, tc, se, si, hn, rfl, rfl, R⟩ := I
  by_cases hs : ml_Kp n v1 ∧ vp_in v2 32
  · obtain ⟨hx, hq⟩ := hs
    obtain ⟨key, hy, rfl⟩ := vp_in_of hq (by decide)
    obtain ⟨s, rfl, h1, h2⟩ := ml_Kp_e (by omega) hx
    have c := R.1 s key h1 h2 hy
    exact xm_at_o hx (by omega) hy (ym_at_o hx (by omega) hy c.1 c.2.2 ⟨c.2.1.symm, J⟩)
  · exact xm_at_n hs (ym_at_n hs ⟨rfl, J⟩)
theorem i_vc_size {k : Nat} {u : SX} {v : SY} (I : i_Rel k u v) (hk : k + 4 ≤ 2048) (v1 : Int32) : wpX_size (fun r => wpY_size (fun r' => r' = r ∧ i_Rel (k + 4) u v) v v1) u v1 := by
  have J := i_up I
  obtain ⟨n, sk, sv, sc, lc, op, bs, vk, vv, ow, rk, th, va, tc, se, si, hn, rfl, rfl, R⟩ := I
  by_cases hx : ml_St n v1
  · by_cases hK : ml_Kp n v1
    · obtain ⟨s, rfl, h1, h2⟩ := ml_Kp_e (by omega) hK
      exact xm_sz_o hK (by omega) (ym_sz_o hK (by omega) (fun j hj => (R.1 s j h1 h2 hj).1) ⟨rfl, J⟩)
    · exact xm_sz_g hx hK (ym_sz_g hx hK ⟨rfl, J⟩)
  · exact xm_sz_b hx (ym_sz_b hx ⟨rfl, J⟩)
theorem i_vc_changed {k : Nat} {u : SX} {v : SY} (I : i_Rel k u v) (hk : k + 4 ≤ 2048) (v1 : Int32) (v2 : Int32) : wpX_changed (fun r => wpY_changed (fun r' => r' = r ∧ i_Rel (k + 4) u v) v v1 v2) u v1 v2 := by
  have J := i_up I
  obtain ⟨n, sk, sv, sc, lc, op, bs, vk, vv, ow, rk, th, va, tc, se, si, hn, rfl, rfl, R⟩ := I
  by_cases hs : ml_St n v1 ∧ ml_St n v2 ∧ v1 < v2
  · by_cases hK : ml_Kp n v1 ∧ ml_Kp n v2
    · obtain ⟨hx, hy⟩ := hK
      have hl := hs.2.2
      obtain ⟨a, rfl, h1, h2⟩ := ml_Kp_e (by omega) hx
      obtain ⟨b, rfl, h3, h4⟩ := ml_Kp_e (by omega) hy
      rw [nI_ltI (by omega) (by omega)] at hl
      refine xm_cd_o (by omega) hl hx hy (ym_cd_o (by omega) hl hx hy ⟨?_, J⟩)
      rw [ml_un_e (a := sc) (b := tc) (p := 8) (q := 6) (s := a) (b - a) (fun j hj => R.2.1 _ (by omega) (by omega))]
    · exact xm_cd_g hs hK (ym_cd_g hs hK ⟨rfl, J⟩)
  · exact xm_cd_x hs (ym_cd_x hs ⟨rfl, J⟩)
end
