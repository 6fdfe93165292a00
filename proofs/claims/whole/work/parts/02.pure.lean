/-! ===== booleans as ints, one bit of a set ===== -/
def ml_b (b : Bool) : Int32 := if b then 1 else 0
theorem ml_b0 {b : Bool} : ml_b b = 0 ↔ b = false := by cases b <;> decide
theorem ml_b1 {b : Bool} : ml_b b = 1 ↔ b = true := by cases b <;> decide
theorem ml_bz (b : Bool) : vp_nar .boolean (ml_b b) = ml_b b := by cases b <;> rfl
theorem ml_bn (b : Bool) : narrow .boolean (.int (ml_b b)) = .int (ml_b b) := by cases b <;> rfl
theorem ml_one (i : Nat) : bt 1 i = decide (i = 0) := by
  rcases Nat.lt_or_ge i 32 with h | h
  · exact (by decide +kernel : ∀ i, i < 32 → bt 1 i = decide (i = 0)) i h
  · rw [b_big h, decide_eq_false (by omega)]
theorem ml_bb (b : Bool) (i : Nat) : bt (ml_b b) i = (decide (i = 0) && b) := by
  cases b
  · show bt 0 i = _
    rw [b_0, Bool.and_false]
  · show bt 1 i = _
    rw [ml_one, Bool.and_true]
theorem ml_bit (x : Int32) (k : Nat) (hk : k < 32) : ((x.toUInt32 >>> ((nI k).toUInt32 &&& Int32.toUInt32 31)).toInt32 &&& 1) = ml_b (bt x k) := by
  apply b_ext
  intro i hi
  rw [b_and, b_ushr k hk, ml_one, ml_bb]
  by_cases h : i = 0
  · subst h; simp
  · simp [h]
theorem ml_sh (k : Nat) (hk : k < 32) (i : Nat) (hi : i < 32) : bt ((1 : Int32) <<< (nI k &&& 31)) i = decide (i = k) := by
  rw [b_shl k hk _ hi, ml_one]
  by_cases h : i = k
  · subst h; simp
  · by_cases h2 : k ≤ i
    · have h3 : ¬ (i - k = 0) := by omega
      simp [h, h3]
    · simp [h, h2]
theorem ml_sh0 (k : Nat) (hk : k < 32) (i : Nat) (hi : i < 32) : bt ((0 : Int32) <<< (nI k &&& 31)) i = false := by
  rw [b_shl k hk _ hi, b_0, Bool.and_false]
/-! ===== counting ===== -/
def ml_cnt (f : Nat → Bool) : Nat → Nat
  | 0 => 0
  | i + 1 => ml_cnt f i + (if f i then 1 else 0)
theorem ml_cnt_le (f : Nat → Bool) : ∀ i, ml_cnt f i ≤ i := by
  intro i
  induction i with
  | zero => exact Nat.le_refl 0
  | succ i ih =>
    show ml_cnt f i + (if f i then 1 else 0) ≤ i + 1
    split <;> omega
theorem ml_cnt_c {f g : Nat → Bool} : ∀ m, (∀ j, j < m → f j = g j) → ml_cnt f m = ml_cnt g m := by
  intro m
  induction m with
  | zero => intro _; rfl
  | succ m ih =>
    intro h
    show ml_cnt f m + (if f m then 1 else 0) = ml_cnt g m + (if g m then 1 else 0)
    rw [ih (fun j hj => h j (by omega)), h m (by omega)]
theorem ml_cnt_up {f g : Nat → Bool} {k : Nat} (hf : f k = false) : ∀ m, k < m → (∀ j, j < m → j ≠ k → g j = f j) → ml_cnt g m = ml_cnt f m + (if g k then 1 else 0) := by
  intro m
  induction m with
  | zero => intro h; omega
  | succ m ih =>
    intro h hg
    by_cases e : k = m
    · subst e
      show ml_cnt g k + (if g k then 1 else 0) = ml_cnt f k + (if f k then 1 else 0) + (if g k then 1 else 0)
      rw [hf, ml_cnt_c k (fun j hj => hg j (by omega) (by omega))]
      simp
    · show ml_cnt g m + (if g m then 1 else 0) = ml_cnt f m + (if f m then 1 else 0) + (if g k then 1 else 0)
      rw [ih (by omega) (fun j hj => hg j (by omega)), hg m (by omega) (fun h => e h.symm)]
      generalize (if f m then 1 else 0 : Nat) = p
      generalize (if g k then 1 else 0 : Nat) = q
      omega
def ml_pc (x : Int32) : Nat := ml_cnt (bt x) 32
theorem ml_pc_le (x : Int32) : ml_pc x ≤ 32 := ml_cnt_le _ 32
theorem ml_pc_0 : ml_pc 0 = 0 := by decide +kernel
theorem ml_or_new (x : Int32) (k : Nat) (hk : k < 32) (h : bt x k = false) : ml_pc (x ||| ((1 : Int32) <<< (nI k &&& 31))) = ml_pc x + 1 := by
  unfold ml_pc
  rw [ml_cnt_up (f := bt x) (g := bt (x ||| ((1 : Int32) <<< (nI k &&& 31)))) (k := k) h 32 hk (fun j hj hn => by rw [b_or, ml_sh k hk j hj, decide_eq_false hn, Bool.or_false])]
  rw [b_or, ml_sh k hk k hk]
  simp
theorem ml_or_old (x : Int32) (k : Nat) (hk : k < 32) (h : bt x k = true) : x ||| ((1 : Int32) <<< (nI k &&& 31)) = x := by
  apply b_ext
  intro i hi
  rw [b_or, ml_sh k hk i hi]
  by_cases e : i = k
  · subst e; rw [h]; rfl
  · simp [e]
/-! ===== the keys from lo on ===== -/
def ml_rg (lo : Nat) : Nat → Int32
  | 0 => 0
  | i + 1 => ml_rg lo i ||| ((1 : Int32) <<< (nI (lo + i) &&& 31))
theorem ml_rg_b (lo : Nat) : ∀ i, lo + i ≤ 32 → ∀ j, j < 32 → bt (ml_rg lo i) j = decide (lo ≤ j ∧ j < lo + i) := by
  intro i
  induction i with
  | zero =>
    intro _ j _
    show bt 0 j = _
    rw [b_0, decide_eq_false (by omega)]
  | succ i ih =>
    intro h j hj
    show bt (ml_rg lo i ||| ((1 : Int32) <<< (nI (lo + i) &&& 31))) j = _
    rw [b_or, ih (by omega) j hj, ml_sh (lo + i) (by omega) j hj, ← Bool.decide_or]
    apply decide_eq_decide.mpr
    omega
theorem ml_rg_pc (x : Int32) (lo i : Nat) (h : lo + i < 32) : ml_pc (x &&& ml_rg lo (i + 1)) = ml_pc (x &&& ml_rg lo i) + (if bt x (lo + i) then 1 else 0) := by
  unfold ml_pc
  rw [ml_cnt_up (f := bt (x &&& ml_rg lo i)) (g := bt (x &&& ml_rg lo (i + 1))) (k := lo + i) (by rw [b_and, ml_rg_b lo i (by omega) _ h, decide_eq_false (by omega), Bool.and_false]) 32 h (fun j hj hn => by
    rw [b_and, b_and, ml_rg_b lo i (by omega) _ hj, ml_rg_b lo (i + 1) (by omega) _ hj]
    congr 1
    apply decide_eq_decide.mpr
    omega)]
  rw [b_and, ml_rg_b lo (i + 1) (by omega) _ h, decide_eq_true (by omega), Bool.and_true]
/-! ===== rows copied, sets joined ===== -/
def ml_cp (a : Nat → Int32) (d : Nat) (f : Nat → Int32) (m : Nat) : Nat → Int32 := fun j => if d ≤ j ∧ j < d + m then f (j - d) else a j
theorem ml_cp0 (a : Nat → Int32) (d : Nat) (f : Nat → Int32) : ml_cp a d f 0 = a := by
  funext j
  unfold ml_cp
  rw [if_neg (by omega)]
theorem ml_cpS (a : Nat → Int32) (d : Nat) (f : Nat → Int32) (m : Nat) : upd (ml_cp a d f m) (d + m) (f m) = ml_cp a d f (m + 1) := by
  funext j
  unfold upd ml_cp
  by_cases h : j = d + m
  · subst h
    rw [if_pos rfl, if_pos (by omega), Nat.add_sub_cancel_left]
  · rw [if_neg h]
    by_cases h2 : d ≤ j ∧ j < d + m
    · rw [if_pos h2, if_pos (by omega)]
    · rw [if_neg h2, if_neg (by omega)]
theorem ml_cp_in (a : Nat → Int32) (d : Nat) (f : Nat → Int32) {m i : Nat} (h : i < m) : ml_cp a d f m (d + i) = f i := by
  unfold ml_cp
  rw [if_pos (by omega), Nat.add_sub_cancel_left]
theorem ml_cp_out (a : Nat → Int32) (d : Nat) (f : Nat → Int32) {m j : Nat} (h : j < d ∨ d + m ≤ j) : ml_cp a d f m j = a j := by
  unfold ml_cp
  rw [if_neg (by omega)]
theorem ml_cp_f (a : Nat → Int32) (d : Nat) {f g : Nat → Int32} {m : Nat} (h : ∀ i, i < m → f i = g i) : ml_cp a d f m = ml_cp a d g m := by
  funext j
  unfold ml_cp
  by_cases h2 : d ≤ j ∧ j < d + m
  · rw [if_pos h2, if_pos h2, h _ (by omega)]
  · rw [if_neg h2, if_neg h2]
/-- the last changes after the first m keys of a new state c with the changes w -/
def ml_lc (a : Nat → Int32) (w c : Int32) (m : Nat) : Nat → Int32 := fun j => if j < m ∧ bt w j = true then c else a j
theorem ml_lc0 (a : Nat → Int32) (w c : Int32) : ml_lc a w c 0 = a := by
  funext j
  unfold ml_lc
  rw [if_neg (by omega)]
theorem ml_lcS (a : Nat → Int32) (w c : Int32) (m : Nat) (h : bt w m = true) : upd (ml_lc a w c m) m c = ml_lc a w c (m + 1) := by
  funext j
  unfold upd ml_lc
  by_cases e : j = m
  · subst e
    rw [if_pos rfl, if_pos ⟨Nat.lt_succ_self _, h⟩]
  · rw [if_neg e]
    by_cases h2 : j < m ∧ bt w j = true
    · rw [if_pos h2, if_pos ⟨by omega, h2.2⟩]
    · rw [if_neg h2, if_neg (fun z => h2 ⟨by omega, z.2⟩)]
theorem ml_lcN (a : Nat → Int32) (w c : Int32) (m : Nat) (h : bt w m = false) : ml_lc a w c m = ml_lc a w c (m + 1) := by
  funext j
  unfold ml_lc
  by_cases h2 : j < m ∧ bt w j = true
  · rw [if_pos h2, if_pos ⟨by omega, h2.2⟩]
  · rw [if_neg h2, if_neg (fun z => by
      by_cases e : j = m
      · subst e; rw [h] at z; exact absurd z.2 (by decide)
      · exact h2 ⟨by omega, z.2⟩)]
/-- a set joined to the first m -/
def ml_or (a : Nat → Int32) (w : Int32) (m : Nat) : Nat → Int32 := fun j => if j < m then a j ||| w else a j
theorem ml_or0 (a : Nat → Int32) (w : Int32) : ml_or a w 0 = a := by
  funext j
  unfold ml_or
  rw [if_neg (by omega)]
theorem ml_orS (a : Nat → Int32) (w : Int32) (m : Nat) : upd (ml_or a w m) m (ml_or a w m m ||| w) = ml_or a w (m + 1) := by
  funext j
  unfold upd ml_or
  by_cases e : j = m
  · subst e
    rw [if_pos rfl, if_neg (by omega), if_pos (by omega)]
  · rw [if_neg e]
    by_cases h2 : j < m
    · rw [if_pos h2, if_pos (by omega)]
    · rw [if_neg h2, if_neg (by omega)]
/-- the changes of the states s + 1 to s + m, out of slots of p -/
def ml_un (a : Nat → Int32) (p s : Nat) : Nat → Int32
  | 0 => 0
  | m + 1 => ml_un a p s m ||| a ((s + m + 1) % p)
theorem ml_un_e {a b : Nat → Int32} {p q s : Nat} : ∀ m, (∀ j, j < m → a ((s + j + 1) % p) = b ((s + j + 1) % q)) → ml_un a p s m = ml_un b q s m := by
  intro m
  induction m with
  | zero => intro _; rfl
  | succ m ih =>
    intro h
    show ml_un a p s m ||| a ((s + m + 1) % p) = ml_un b q s m ||| b ((s + m + 1) % q)
    rw [ih (fun j hj => h j (by omega)), h m (by omega)]
theorem ml_uu (a : Nat → Int32) (k : Nat) (x y : Int32) : upd (upd a k x) k y = upd a k y := by
  funext j
  unfold upd
  by_cases e : j = k
  · rw [if_pos e, if_pos e]
  · rw [if_neg e, if_neg e, if_neg e]
theorem ml_us (a : Nat → Int32) (k : Nat) : upd a k (a k) = a := by
  funext j
  unfold upd
  by_cases e : j = k
  · rw [if_pos e, e]
  · rw [if_neg e]
/-- two sets meet or do not -/
theorem ml_meet (x y : Int32) : x &&& y = 0 ↔ ∀ k, k < 32 → ¬ (bt x k = true ∧ bt y k = true) := by
  constructor
  · intro h k _ z
    have e := b_and x y k
    rw [h, b_0, z.1, z.2] at e
    exact absurd e (by decide)
  · intro h
    apply b_ext
    intro i hi
    rw [b_and, b_0]
    have := h i hi
    cases hx : bt x i <;> cases hy : bt y i <;> first | rfl | exact absurd ⟨hx, hy⟩ this
/-- a change of one key: (x & ~bit) | (p << k) -/
theorem ml_put1 (x : Int32) (k : Nat) (hk : k < 32) (i : Nat) (hi : i < 32) : bt ((x &&& (((1 : Int32) <<< (nI k &&& 31)) ^^^ (-1))) ||| ((1 : Int32) <<< (nI k &&& 31))) i = if i = k then true else bt x i := by
  rw [b_or, b_and, b_xor, ml_sh k hk i hi, b_m1 i hi]
  by_cases e : i = k
  · simp [e]
  · simp [e]
theorem ml_put0 (x : Int32) (k : Nat) (hk : k < 32) (i : Nat) (hi : i < 32) : bt ((x &&& (((1 : Int32) <<< (nI k &&& 31)) ^^^ (-1))) ||| ((0 : Int32) <<< (nI k &&& 31))) i = if i = k then false else bt x i := by
  rw [b_or, b_and, b_xor, ml_sh k hk i hi, ml_sh0 k hk i hi, b_m1 i hi]
  by_cases e : i = k
  · simp [e]
  · simp [e]
/-- keys of the new state: (x & ~w) | (y & w) -/
theorem ml_mix (x y w : Int32) (i : Nat) (hi : i < 32) : bt ((x &&& (w ^^^ (-1))) ||| (y &&& w)) i = if bt w i then bt y i else bt x i := by
  rw [b_or, b_and, b_and, b_xor, b_m1 i hi]
  cases bt w i <;> cases bt x i <;> cases bt y i <;> rfl
/-- a state's slots -/
theorem ml_and7 (n : Nat) (h : n < 2 ^ 31) : nI n &&& 7 = nI (n % 8) := pk_andN (by omega) 3 (by decide)
theorem ml_rem6 (n : Nat) (h : n < 2 ^ 31) : nI n - nI n / 6 * 6 = nI (n % 6) := pk_rem (d := 6) h (by decide) (by decide)
