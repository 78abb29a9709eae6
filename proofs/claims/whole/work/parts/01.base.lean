theorem pk_us {f : Nat → Int32} {k : Nat} {x : Int32} : upd f k x k = x := if_pos rfl
theorem pk_un {f : Nat → Int32} {k j : Nat} {x : Int32} (h : j ≠ k) : upd f k x j = f j := if_neg h
theorem pk_sub {a b : Nat} (h : b ≤ a) : nI a - nI b = nI (a - b) := by
  obtain ⟨c, rfl⟩ : ∃ c, a = c + b := ⟨a - b, by omega⟩
  rw [← nI_add, Int32.add_sub_cancel, Nat.add_sub_cancel]
theorem pk_mul (a b : Nat) : nI a * nI b = nI (a * b) := (Int32.ofNat_mul a b).symm
theorem pk_div {a d : Nat} (ha : a < 2 ^ 31) (h0 : 0 < d) (hd : d < 2 ^ 31) : nI a / nI d = nI (a / d) := by
  apply Int32.toInt_inj.mp
  rw [lg_idiv_nonneg (by rw [nI_toInt ha]; omega) (by rw [nI_toInt hd]; omega), nI_toInt ha, nI_toInt hd, nI_toInt (Nat.lt_of_le_of_lt (Nat.div_le_self a d) ha)]
  first | rfl | exact (Int.natCast_ediv _ _).symm
theorem pk_rem {a d : Nat} (ha : a < 2 ^ 31) (h0 : 0 < d) (hd : d < 2 ^ 31) : nI a - nI a / nI d * nI d = nI (a % d) := by
  rw [pk_div ha h0 hd, pk_mul, pk_sub (Nat.div_mul_le_self a d)]
  exact congrArg nI (by have := Nat.div_add_mod' a d; omega)
theorem pk_ix (x : Int32) {n : Nat} (hn : n < 2 ^ 31) : x < 0 ∨ nI n ≤ x ∨ ∃ j : Nat, j < n ∧ x = nI j := by
  by_cases h : x < 0
  · exact Or.inl h
  · obtain ⟨j, hj, rfl⟩ := nI_of h
    by_cases h2 : j < n
    · exact Or.inr (Or.inr ⟨j, h2, rfl⟩)
    · exact Or.inr (Or.inl (nI_le (by omega) hj))
def bt (x : Int32) (i : Nat) : Bool := x.toBitVec.getLsbD i
theorem b_ext {x y : Int32} (h : ∀ i, i < 32 → bt x i = bt y i) : x = y := Int32.toBitVec_inj.mp (BitVec.eq_of_getLsbD_eq (fun i hi => h i hi))
theorem b_or (x y : Int32) (i : Nat) : bt (x ||| y) i = (bt x i || bt y i) := by unfold bt; rw [Int32.toBitVec_or, BitVec.getLsbD_or]
theorem b_and (x y : Int32) (i : Nat) : bt (x &&& y) i = (bt x i && bt y i) := by unfold bt; rw [Int32.toBitVec_and, BitVec.getLsbD_and]
theorem b_0 (i : Nat) : bt 0 i = false := BitVec.getLsbD_zero
theorem s_l : ∀ n, n < 32 → ((nI n &&& 31).toBitVec.smod 32).toNat = n := by decide +kernel
theorem b_shl (n : Nat) (hn : n < 32) (x : Int32) {i : Nat} (hi : i < 32) : bt (x <<< (nI n &&& 31)) i = (decide (n ≤ i) && bt x (i - n)) := by
  unfold bt
  rw [Int32.toBitVec_shiftLeft]
  show (x.toBitVec <<< ((nI n &&& 31).toBitVec.smod 32).toNat).getLsbD i = _
  rw [s_l n hn, BitVec.getLsbD_shiftLeft]
  rcases Nat.lt_or_ge i n with h | h
  · simp [h, Nat.not_le.mpr h]
  · simp [hi, h, Nat.not_lt.mpr h]
theorem b_sshr (n : Nat) (hn : n < 32) (x : Int32) {i : Nat} (hi : i < 32) : bt (x >>> (nI n &&& 31)) i = if n + i < 32 then bt x (n + i) else bt x 31 := by
  unfold bt
  rw [Int32.toBitVec_shiftRight]
  show (x.toBitVec.sshiftRight ((nI n &&& 31).toBitVec.smod 32).toNat).getLsbD i = _
  rw [s_l n hn, BitVec.getLsbD_sshiftRight, BitVec.msb_eq_getLsbD_last]
  simp [hi]
/-! ===== indices, bits ===== -/
theorem ec_cl {i : Nat} (h : i < 12) : (nI i).toNatClampNeg = i := nI_clamp (by omega)
theorem ec_ge {i : Nat} (h : i < 12) : ¬ (12 : Int32) ≤ nI i := nI_ge (b := 12) h (by decide)
theorem ec_12 : (12 : Int32) ≤ nI 12 := nI_le (a := 12) (b := 12) (by decide) (by decide)
theorem ec_in {i : Nat} (h : i < 12) : vp_in (nI i) 12 := vp_in_nI h (by decide)
theorem ec_one : ∀ n, n < 12 → ∀ i, i < 32 → bt ((1 : Int32) <<< (nI n &&& 31)) i = decide (i = n) := by decide +kernel
theorem ec_b1 : ∀ i, i < 32 → bt 1 i = decide (i = 0) := by decide +kernel
theorem ec_z {x : Int32} : x = 0 ↔ ∀ i, i < 32 → bt x i = false := by
  constructor
  · intro h i _
    rw [h, b_0]
  · intro h
    apply b_ext
    intro i hi
    rw [h i hi, b_0]
/-- the test ((x >> t) & 1) == 1 -/
theorem ec_tst {x : Int32} {t : Nat} (ht : t < 12) : ((x >>> (nI t &&& 31)) &&& 1) = 1 ↔ bt x t = true := by
  constructor
  · intro h
    have e : bt ((x >>> (nI t &&& 31)) &&& 1) 0 = true := by rw [h]; decide
    rw [b_and, b_sshr t (by omega) x (by omega), if_pos (by omega)] at e
    simp only [Nat.add_zero, Bool.and_eq_true] at e
    exact e.1
  · intro h
    apply b_ext
    intro i hi
    rw [b_and, ec_b1 i hi]
    by_cases z : i = 0
    · subst z
      rw [b_sshr t (by omega) x (by omega), if_pos (by omega), Nat.add_zero, h]
      rfl
    · simp [z]
/-- the test (((1 << a) | (1 << b)) & x) == 0 -/
theorem ec_rdt {x : Int32} {a b : Nat} (ha : a < 12) (hb : b < 12) : ((((1 : Int32) <<< (nI a &&& 31)) ||| ((1 : Int32) <<< (nI b &&& 31))) &&& x) = 0 ↔ ¬ (bt x a = true ∨ bt x b = true) := by
  rw [ec_z]
  constructor
  · intro h
    rintro (z | z)
    · have e := h a (by omega)
      rw [b_and, b_or, ec_one a ha a (by omega), z] at e
      simp at e
    · have e := h b (by omega)
      rw [b_and, b_or, ec_one b hb b (by omega), z] at e
      simp at e
  · intro h i hi
    rw [b_and, b_or, ec_one a ha i hi, ec_one b hb i hi]
    by_cases e1 : i = a
    · subst e1
      cases hx : bt x i
      · simp
      · exact absurd (Or.inl hx) h
    · by_cases e2 : i = b
      · subst e2
        cases hx : bt x i
        · simp
        · exact absurd (Or.inr hx) h
      · simp [e1, e2]
/-! ===== counting ===== -/
def ec_cnt (p : Nat → Bool) : Nat → Nat
  | 0 => 0
  | n + 1 => ec_cnt p n + (if p n = true then 1 else 0)
theorem ec_cnt_n (p : Nat → Bool) : ∀ n, ec_cnt p n ≤ n := by
  intro n
  induction n with
  | zero => exact Nat.le_refl 0
  | succ n ih =>
    simp only [ec_cnt]
    split <;> omega
theorem ec_cnt_le {p q : Nat → Bool} : ∀ n, (∀ t, t < n → p t = true → q t = true) → ec_cnt p n ≤ ec_cnt q n := by
  intro n
  induction n with
  | zero => exact fun _ => Nat.le_refl 0
  | succ n ih =>
    intro h
    have a := ih (fun t ht => h t (by omega))
    have b := h n (by omega)
    simp only [ec_cnt]
    cases hp : p n
    · simp; omega
    · rw [b hp]; simp; omega
theorem ec_cnt_lt {p q : Nat → Bool} : ∀ n, (∀ t, t < n → p t = true → q t = true) → ∀ t0, t0 < n → p t0 = false → q t0 = true → ec_cnt p n < ec_cnt q n := by
  intro n
  induction n with
  | zero => intro _ t0 h; omega
  | succ n ih =>
    intro h t0 ht hp hq
    by_cases e : t0 = n
    · subst e
      have a := ec_cnt_le t0 (fun t z => h t (by omega))
      simp only [ec_cnt, hp, hq]
      simp
      omega
    · have a := ih (fun t z => h t (by omega)) t0 (by omega) hp hq
      have b := h n (by omega)
      simp only [ec_cnt]
      cases hp : p n
      · simp; omega
      · rw [b hp]; simp; omega
theorem ec_cnt_eq {p q : Nat → Bool} : ∀ n, (∀ t, t < n → p t = q t) → ec_cnt p n = ec_cnt q n := by
  intro n
  induction n with
  | zero => exact fun _ => rfl
  | succ n ih =>
    intro h
    simp only [ec_cnt]
    rw [ih (fun t ht => h t (by omega)), h n (by omega)]
