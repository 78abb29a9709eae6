section
theorem pk_us {f : Nat → Int32} {k : Nat} {x : Int32} : upd f k x k = x := if_pos rfl
theorem pk_un {f : Nat → Int32} {k j : Nat} {x : Int32} (h : j ≠ k) : upd f k x j = f j := if_neg h
theorem pk_sub {a b : Nat} (h : b ≤ a) : nI a - nI b = nI (a - b) := by
  obtain ⟨c, rfl⟩ : ∃ c, a = c + b := ⟨a - b, by omega⟩
  rw [← nI_add, Int32.add_sub_cancel, Nat.add_sub_cancel]
theorem pk_mul (a b : Nat) : nI a * nI b = nI (a * b) := (Int32.ofNat_mul a b).symm
theorem pk_div {a d : Nat} (ha : a < 2 ^ 31) (h0 : 0 < d) (hd : d < 2 ^ 31) : nI a / nI d = nI (a / d) := by
  apply Int32.toInt_inj.mp
  rw [lg_idiv_nonneg (by rw [nI_toInt ha]; omega) (by rw [nI_toInt hd]; omega), nI_toInt ha, nI_toInt hd, nI_toInt (Nat.lt_of_le_of_lt (Nat.div_le_self a d) ha)]
  first | rfl | exact (Int.natCast_ediv _ _).symm
theorem pk_rem {a d : Nat} (ha : a < 2 ^ 31) (h0 : 0 < d) (hd : d < 2 ^ 31) : nI a - nI a / nI d * nI d = nI (a % d) := by
  rw [pk_div ha h0 hd, pk_mul, pk_sub (Nat.div_mul_le_self a d)]
  exact congrArg nI (by have := Nat.div_add_mod' a d; omega)
theorem pk_ix (x : Int32) {n : Nat} (hn : n < 2 ^ 31) : x < 0 ∨ nI n ≤ x ∨ ∃ j : Nat, j < n ∧ x = nI j := by
  by_cases h : x < 0
  · exact Or.inl h
  · obtain ⟨j, hj, rfl⟩ := nI_of h
    by_cases h2 : j < n
    · exact Or.inr (Or.inr ⟨j, h2, rfl⟩)
    · exact Or.inr (Or.inl (nI_le (by omega) hj))
def bt (x : Int32) (i : Nat) : Bool := x.toBitVec.getLsbD i
theorem b_ext {x y : Int32} (h : ∀ i, i < 32 → bt x i = bt y i) : x = y := Int32.toBitVec_inj.mp (BitVec.eq_of_getLsbD_eq (fun i hi => h i hi))
theorem b_or (x y : Int32) (i : Nat) : bt (x ||| y) i = (bt x i || bt y i) := by unfold bt; rw [Int32.toBitVec_or, BitVec.getLsbD_or]
theorem b_and (x y : Int32) (i : Nat) : bt (x &&& y) i = (bt x i && bt y i) := by unfold bt; rw [Int32.toBitVec_and, BitVec.getLsbD_and]
theorem b_0 (i : Nat) : bt 0 i = false := BitVec.getLsbD_zero
theorem s_l : ∀ n, n < 32 → ((nI n &&& 31).toBitVec.smod 32).toNat = n := by decide +kernel
theorem b_shl (n : Nat) (hn : n < 32) (x : Int32) {i : Nat} (hi : i < 32) : bt (x <<< (nI n &&& 31)) i = (decide (n ≤ i) && bt x (i - n)) := by
  unfold bt
  rw [Int32.toBitVec_shiftLeft]
  show (x.toBitVec <<< ((nI n &&& 31).toBitVec.smod 32).toNat).getLsbD i = _
  rw [s_l n hn, BitVec.getLsbD_shiftLeft]
  rcases Nat.lt_or_ge i n with h | h
  · simp [h, Nat.not_le.mpr h]
  · simp [hi, h, Nat.not_lt.mpr h]
theorem b_sshr (n : Nat) (hn : n < 32) (x : Int32) {i : Nat} (hi : i < 32) : bt (x >>> (nI n &&& 31)) i = if n + i < 32 then bt x (n + i) else bt x 31 := by
  unfold bt
  rw [Int32.toBitVec_shiftRight]
  show (x.toBitVec.sshiftRight ((nI n &&& 31).toBitVec.smod 32).toNat).getLsbD i = _
  rw [s_l n hn, BitVec.getLsbD_sshiftRight, BitVec.msb_eq_getLsbD_last]
  simp [hi]
/-! ===== indices, bits ===== -/
theorem ec_cl {i : Nat} (h : i < 12) : (nI i).toNatClampNeg = i := nI_clamp (by omega)
theorem ec_ge {i : Nat} (h : i < 12) : ¬ (12 : Int32) ≤ nI i := nI_ge (b := 12) h (by decide)
theorem ec_12 : (12 : Int32) ≤ nI 12 := nI_le (a := 12) (b := 12) (by decide) (by decide)
theorem ec_in {i : Nat} (h : i < 12) : vp_in (nI i) 12 := vp_in_nI h (by decide)
theorem ec_one : ∀ n, n < 12 → ∀ i, i < 32 → bt ((1 : Int32) <<< (nI n &&& 31)) i = decide (i = n) := by decide +kernel
theorem ec_b1 : ∀ i, i < 32 → bt 1 i = decide (i = 0) := by decide +kernel
theorem ec_z {x : Int32} : x = 0 ↔ ∀ i, i < 32 → bt x i = false := by
  constructor
  · intro h i _
    rw [h, b_0]
  · intro h
    apply b_ext
    intro i hi
    rw [h i hi, b_0]
/-- the test ((x >> t) & 1) == 1 -/
theorem ec_tst {x : Int32} {t : Nat} (ht : t < 12) : ((x >>> (nI t &&& 31)) &&& 1) = 1 ↔ bt x t = true := by
  constructor
  · intro h
    have e : bt ((x >>> (nI t &&& 31)) &&& 1) 0 = true := by rw [h]; decide
    rw [b_and, b_sshr t (by omega) x (by omega), if_pos (by omega)] at e
    simp only [Nat.add_zero, Bool.and_eq_true] at e
    exact e.1
  · intro h
    apply b_ext
    intro i hi
    rw [b_and, ec_b1 i hi]
    by_cases z : i = 0
    · subst z
      rw [b_sshr t (by omega) x (by omega), if_pos (by omega), Nat.add_zero, h]
      rfl
    · simp [z]
/-- the test (((1 << a) | (1 << b)) & x) == 0 -/
theorem ec_rdt {x : Int32} {a b : Nat} (ha : a < 12) (hb : b < 12) : ((((1 : Int32) <<< (nI a &&& 31)) ||| ((1 : Int32) <<< (nI b &&& 31))) &&& x) = 0 ↔ ¬ (bt x a = true ∨ bt x b = true) := by
  rw [ec_z]
  constructor
  · intro h
    rintro (z | z)
    · have e := h a (by omega)
      rw [b_and, b_or, ec_one a ha a (by omega), z] at e
      simp at e
    · have e := h b (by omega)
      rw [b_and, b_or, ec_one b hb b (by omega), z] at e
      simp at e
  · intro h i hi
    rw [b_and, b_or, ec_one a ha i hi, ec_one b hb i hi]
    by_cases e1 : i = a
    · subst e1
      cases hx : bt x i
      · simp
      · exact absurd (Or.inl hx) h
    · by_cases e2 : i = b
      · subst e2
        cases hx : bt x i
        · simp
        · exact absurd (Or.inr hx) h
      · simp [e1, e2]
/-! ===== counting ===== -/
def ec_cnt (p : Nat → Bool) : Nat → Nat
  | 0 => 0
  | n + 1 => ec_cnt p n + (if p n = true then 1 else 0)
theorem ec_cnt_n (p : Nat → Bool) : ∀ n, ec_cnt p n ≤ n := by
  intro n
  induction n with
  | zero => exact Nat.le_refl 0
  | succ n ih =>
    simp only [ec_cnt]
    split <;> omega
theorem ec_cnt_le {p q : Nat → Bool} : ∀ n, (∀ t, t < n → p t = true → q t = true) → ec_cnt p n ≤ ec_cnt q n := by
  intro n
  induction n with
  | zero => exact fun _ => Nat.le_refl 0
  | succ n ih =>
    intro h
    have a := ih (fun t ht => h t (by omega))
    have b := h n (by omega)
    simp only [ec_cnt]
    cases hp : p n
    · simp; omega
    · rw [b hp]; simp; omega
theorem ec_cnt_lt {p q : Nat → Bool} : ∀ n, (∀ t, t < n → p t = true → q t = true) → ∀ t0, t0 < n → p t0 = false → q t0 = true → ec_cnt p n < ec_cnt q n := by
  intro n
  induction n with
  | zero => intro _ t0 h; omega
  | succ n ih =>
    intro h t0 ht hp hq
    by_cases e : t0 = n
    · subst e
      have a := ec_cnt_le t0 (fun t z => h t (by omega))
      simp only [ec_cnt, hp, hq]
      simp
      omega
    · have a := ih (fun t z => h t (by omega)) t0 (by omega) hp hq
      have b := h n (by omega)
      simp only [ec_cnt]
      cases hp : p n
      · simp; omega
      · rw [b hp]; simp; omega
theorem ec_cnt_eq {p q : Nat → Bool} : ∀ n, (∀ t, t < n → p t = q t) → ec_cnt p n = ec_cnt q n := by
  intro n
  induction n with
  | zero => exact fun _ => rfl
  | succ n ih =>
    intro h
    simp only [ec_cnt]
    rw [ih (fun t ht => h t (by omega)), h n (by omega)]
end
section
/-! ===== the graph of the wires: K i = 1 says that i is a wire, f i and h i are what it reads ===== -/
/-- the index that an array of signals holds -/
def ec_ix (A : Nat → Int32) (i : Nat) : Nat := (A i).toNatClampNeg
def ec_In (f : Nat → Nat) : Prop := ∀ i, i < 12 → f i < 12
/-- a rank: every wire stands above what it reads -/
def ec_Rk (K : Nat → Int32) (f h rk : Nat → Nat) : Prop := ∀ i, i < 12 → K i = 1 → rk (f i) < rk i ∧ rk (h i) < rk i
theorem ec_rk12 {K : Nat → Int32} {f h rk : Nat → Nat} (hf : ec_In f) (hh : ec_In h) (H : ec_Rk K f h rk) : ∃ r : Nat → Nat, ec_Rk K f h r ∧ ∀ i, i < 12 → r i < 12 := by
  have key : ∀ i j, i < 12 → j < 12 → rk j < rk i → ec_cnt (fun t => decide (rk t < rk j)) 12 < ec_cnt (fun t => decide (rk t < rk i)) 12 := by
    intro i j hi hj hlt
    refine ec_cnt_lt 12 (fun t _ z => ?_) j hj ?_ ?_
    · simp only [decide_eq_true_eq] at z ⊢
      omega
    · simp
    · simp only [decide_eq_true_eq]
      exact hlt
  refine ⟨fun i => ec_cnt (fun t => decide (rk t < rk i)) 12, ?_, ?_⟩
  · intro i hi hk
    have a := H i hi hk
    exact ⟨key i (f i) hi (hf i hi) a.1, key i (h i) hi (hh i hi) a.2⟩
  · intro i hi
    have a : ec_cnt (fun t => decide (rk t < rk i)) 12 < ec_cnt (fun _ => true) 12 := by
      refine ec_cnt_lt 12 (fun _ _ _ => rfl) i hi ?_ rfl
      simp
    have b := ec_cnt_n (fun _ => true) 12
    show ec_cnt (fun t => decide (rk t < rk i)) 12 < 12
    omega
/-- i hangs on t by a chain of at most k wires -/
def ec_F (K : Nat → Int32) (f h : Nat → Nat) (t : Nat) : Nat → Nat → Prop
  | 0, _ => False
  | k + 1, i => K i = 1 ∧ ((f i = t ∨ ec_F K f h t k (f i)) ∨ (h i = t ∨ ec_F K f h t k (h i)))
section ECF
variable {K : Nat → Int32} {f h rk : Nat → Nat} {t : Nat}
theorem ec_F_or {P Q : Nat → Prop} {a b t : Nat} (m : ∀ i, P i → Q i) (z : (a = t ∨ P a) ∨ (b = t ∨ P b)) : (a = t ∨ Q a) ∨ (b = t ∨ Q b) := by
  rcases z with (z | z) | (z | z)
  · exact Or.inl (Or.inl z)
  · exact Or.inl (Or.inr (m _ z))
  · exact Or.inr (Or.inl z)
  · exact Or.inr (Or.inr (m _ z))
theorem ec_F_s : ∀ k i, ec_F K f h t k i → ec_F K f h t (k + 1) i := by
  intro k
  induction k with
  | zero => intro i z; exact absurd z (by simp only [ec_F]; exact fun z => z)
  | succ k ih =>
    intro i z
    exact ⟨z.1, ec_F_or ih z.2⟩
theorem ec_F_le {k j : Nat} (hkj : k ≤ j) {i : Nat} (z : ec_F K f h t k i) : ec_F K f h t j i := by
  obtain ⟨d, rfl⟩ : ∃ d, j = k + d := ⟨j - k, by omega⟩
  clear hkj
  induction d with
  | zero => exact z
  | succ d ih => exact ec_F_s _ _ ih
theorem ec_F_rk (hf : ec_In f) (hh : ec_In h) (H : ec_Rk K f h rk) : ∀ k i, i < 12 → ec_F K f h t k i → rk t < rk i := by
  intro k
  induction k with
  | zero => intro i _ z; exact z.elim
  | succ k ih =>
    intro i hi z
    have a := H i hi z.1
    rcases z.2 with (e | e) | (e | e)
    · rw [← e]; exact a.1
    · have := ih _ (hf i hi) e; omega
    · rw [← e]; exact a.2
    · have := ih _ (hh i hi) e; omega
theorem ec_F_stab (hf : ec_In f) (hh : ec_In h) (H : ec_Rk K f h rk) : ∀ j k i, i < 12 → rk i < j → ec_F K f h t k i → ec_F K f h t j i := by
  intro j
  induction j with
  | zero => intro k i _ z; omega
  | succ j ih =>
    intro k i hi hr z
    cases k with
    | zero => exact z.elim
    | succ k =>
      have a := H i hi z.1
      refine ⟨z.1, ?_⟩
      rcases z.2 with (e | e) | (e | e)
      · exact Or.inl (Or.inl e)
      · exact Or.inl (Or.inr (ih k _ (hf i hi) (by omega) e))
      · exact Or.inr (Or.inl e)
      · exact Or.inr (Or.inr (ih k _ (hh i hi) (by omega) e))
theorem ec_F_trans {m : Nat} : ∀ j k i, ec_F K f h m j i → ec_F K f h t k m → ec_F K f h t (j + k) i := by
  intro j
  induction j with
  | zero => intro k i z; exact z.elim
  | succ j ih =>
    intro k i z y
    rw [show j + 1 + k = (j + k) + 1 by omega]
    refine ⟨z.1, ?_⟩
    rcases z.2 with (e | e) | (e | e)
    · exact Or.inl (Or.inr (by rw [e]; exact ec_F_le (by omega) y))
    · exact Or.inl (Or.inr (ih k _ e y))
    · exact Or.inr (Or.inr (by rw [e]; exact ec_F_le (by omega) y))
    · exact Or.inr (Or.inr (ih k _ e y))
end ECF
/-! ===== s gets a new formula (a, b) ===== -/
section ECN
variable {K K' : Nat → Int32} {f h f' h' rk : Nat → Nat} {s a b : Nat}
theorem ec_new_F (hK : ∀ i, i ≠ s → K' i = K i) (hf' : ∀ i, i ≠ s → f' i = f i) (hh' : ∀ i, i ≠ s → h' i = h i)
    (hf : ec_In f) (hh : ec_In h) (H : ec_Rk K f h rk) : ∀ k i, i < 12 → ec_F K f h s k i → ec_F K' f' h' s k i := by
  intro k
  induction k with
  | zero => intro i _ z; exact z
  | succ k ih =>
    intro i hi z
    have n : i ≠ s := by
      intro e
      have := ec_F_rk hf hh H _ i hi z
      rw [e] at this
      omega
    refine ⟨by rw [hK i n]; exact z.1, ?_⟩
    rw [hf' i n, hh' i n]
    rcases z.2 with (e | e) | (e | e)
    · exact Or.inl (Or.inl e)
    · exact Or.inl (Or.inr (ih _ (hf i hi) e))
    · exact Or.inr (Or.inl e)
    · exact Or.inr (Or.inr (ih _ (hh i hi) e))
theorem ec_circ1 (hK : ∀ i, i ≠ s → K' i = K i) (hf' : ∀ i, i ≠ s → f' i = f i) (hh' : ∀ i, i ≠ s → h' i = h i)
    (hKs : K' s = 1) (hfs : f' s = a) (hhs : h' s = b) (ha : a < 12) (hb : b < 12)
    (hf : ec_In f) (hh : ec_In h) (H : ec_Rk K f h rk) (z : (a = s ∨ ec_F K f h s 12 a) ∨ (b = s ∨ ec_F K f h s 12 b)) : ec_F K' f' h' s 13 s := by
  have n := ec_new_F hK hf' hh' hf hh H 12
  refine ⟨hKs, ?_⟩
  rw [hfs, hhs]
  rcases z with (e | e) | (e | e)
  · exact Or.inl (Or.inl e)
  · exact Or.inl (Or.inr (n _ ha e))
  · exact Or.inr (Or.inl e)
  · exact Or.inr (Or.inr (n _ hb e))
theorem ec_circ2 (hK : ∀ i, i ≠ s → K' i = K i) (hf' : ∀ i, i ≠ s → f' i = f i) (hh' : ∀ i, i ≠ s → h' i = h i)
    (hfs : f' s = a) (hhs : h' s = b) (ha : a < 12) (hb : b < 12)
    (hf : ec_In f) (hh : ec_In h) (H : ec_Rk K f h rk) (z : ¬ ((a = s ∨ ec_F K f h s 12 a) ∨ (b = s ∨ ec_F K f h s 12 b))) : ∃ r, ec_Rk K' f' h' r := by
  classical
  obtain ⟨r, R, hr⟩ := ec_rk12 hf hh H
  have cl : ∀ i, i < 12 → K i = 1 → ∀ t, (f i = t ∨ h i = t) → (t = s ∨ ec_F K f h s 12 t) → ec_F K f h s 12 i := by
    intro i hi hk t ht zt
    have y : ec_F K f h s 13 i := by
      refine ⟨hk, ?_⟩
      rcases ht with e | e
      · rw [e]; exact Or.inl zt
      · rw [e]; exact Or.inr zt
    exact ec_F_stab hf hh R 12 13 i hi (hr i hi) y
  refine ⟨fun i => r i + (if (i = s ∨ ec_F K f h s 12 i) then 12 else 0), ?_⟩
  intro i hi hk
  by_cases e : i = s
  · subst e
    rw [hfs, hhs]
    have na : ¬ (a = i ∨ ec_F K f h i 12 a) := fun y => z (Or.inl y)
    have nb : ¬ (b = i ∨ ec_F K f h i 12 b) := fun y => z (Or.inr y)
    have ra := hr a ha
    have rb := hr b hb
    show r a + _ < r i + _ ∧ r b + _ < r i + _
    rw [if_neg na, if_neg nb, if_pos (Or.inl rfl)]
    omega
  · rw [hf' i e, hh' i e]
    rw [hK i e] at hk
    have rr := R i hi hk
    have one : ∀ t, (f i = t ∨ h i = t) → r t < r i → r t + (if (t = s ∨ ec_F K f h s 12 t) then 12 else 0) < r i + (if (i = s ∨ ec_F K f h s 12 i) then 12 else 0) := by
      intro t ht hlt
      by_cases y : t = s ∨ ec_F K f h s 12 t
      · rw [if_pos y, if_pos (Or.inr (cl i hi hk t ht y))]
        omega
      · rw [if_neg y]
        split <;> omega
    exact ⟨one _ (Or.inl rfl) rr.1, one _ (Or.inr rfl) rr.2⟩
/-- fewer wires: the rank stays -/
theorem ec_Rk_sub (hK : ∀ i, i ≠ s → K' i = K i) (hf' : ∀ i, i ≠ s → f' i = f i) (hh' : ∀ i, i ≠ s → h' i = h i) (hKs : K' s ≠ 1)
    (H : ec_Rk K f h rk) : ec_Rk K' f' h' rk := by
  intro i hi hk
  by_cases e : i = s
  · rw [e] at hk; exact absurd hk hKs
  · rw [hf' i e, hh' i e]
    rw [hK i e] at hk
    exact H i hi hk
end ECN
end
section
/-! ===== settling: twelve rounds over twelve signals, in place ===== -/
def ec_g (o p q : Int32) : Int32 :=
  if o = 0 then p &&& q else if o = 1 then p ||| q else if o = 2 then p ^^^ q else if o = 3 then (p + q) &&& 15 else if o = 4 then (p - q) &&& 15
  else if o = 5 then (if q ≤ p then 0 else 1) else if o = 6 then p else if o = 7 then 15 - p else if p = 0 then q else 15 - q
def ec_st (K : Nat → Int32) (f h : Nat → Nat) (O : Nat → Int32) (V : Nat → Int32) (i : Nat) : Nat → Int32 :=
  if K i = 1 then upd V i (ec_g (O i) (V (f i)) (V (h i))) else V
def ec_sw (K : Nat → Int32) (f h : Nat → Nat) (O : Nat → Int32) (V : Nat → Int32) : Nat → (Nat → Int32)
  | 0 => V
  | i + 1 => ec_st K f h O (ec_sw K f h O V i) i
def ec_se (K : Nat → Int32) (f h : Nat → Nat) (O : Nat → Int32) (V : Nat → Int32) : Nat → (Nat → Int32)
  | 0 => V
  | k + 1 => ec_sw K f h O (ec_se K f h O V k) 12
/-- what the formulas say, unrolled k times -/
def ec_E (K : Nat → Int32) (f h : Nat → Nat) (O : Nat → Int32) (V : Nat → Int32) : Nat → Nat → Int32
  | 0, i => V i
  | k + 1, i => if K i = 1 then ec_g (O i) (ec_E K f h O V k (f i)) (ec_E K f h O V k (h i)) else V i
def ec_Set (K : Nat → Int32) (f h : Nat → Nat) (O : Nat → Int32) (V : Nat → Int32) : Prop :=
  ∀ i, i < 12 → K i = 1 → V i = ec_g (O i) (V (f i)) (V (h i))
section ECS
variable {K : Nat → Int32} {f h rk : Nat → Nat} {O V : Nat → Int32}
theorem ec_E_stab (hf : ec_In f) (hh : ec_In h) (H : ec_Rk K f h rk) : ∀ k j i, i < 12 → rk i < k → rk i < j → ec_E K f h O V k i = ec_E K f h O V j i := by
  intro k
  induction k with
  | zero => intro j i _ z; omega
  | succ k ih =>
    intro j i hi hk hj
    cases j with
    | zero => omega
    | succ j =>
      simp only [ec_E]
      by_cases z : K i = 1
      · have a := H i hi z
        rw [if_pos z, if_pos z, ih j (f i) (hf i hi) (by omega) (by omega), ih j (h i) (hh i hi) (by omega) (by omega)]
      · rw [if_neg z, if_neg z]
theorem ec_st_n {W : Nat → Int32} {i j : Nat} (hj : j ≠ i ∨ K i ≠ 1) : ec_st K f h O W i j = W j := by
  unfold ec_st
  by_cases z : K i = 1
  · rw [if_pos z]
    rcases hj with e | e
    · exact pk_un e
    · exact absurd z e
  · rw [if_neg z]
theorem ec_st_y {W : Nat → Int32} {i : Nat} (z : K i = 1) : ec_st K f h O W i i = ec_g (O i) (W (f i)) (W (h i)) := by
  unfold ec_st
  rw [if_pos z]
  exact pk_us
/-- the round k has reached signal i -/
def ec_J (K : Nat → Int32) (rk : Nat → Nat) (e W : Nat → Int32) (k i : Nat) : Prop :=
  ∀ j, j < 12 → (K j ≠ 1 ∨ rk j < k ∨ (rk j < k + 1 ∧ j < i)) → W j = e j
theorem ec_J_st (hf : ec_In f) (hh : ec_In h) (H : ec_Rk K f h rk) {e W : Nat → Int32} (he : ec_Set K f h O e) {k i : Nat} (hi : i < 12)
    (J : ec_J K rk e W k i) : ec_J K rk e (ec_st K f h O W i) k (i + 1) := by
  intro j hj c
  by_cases z : j = i
  · subst z
    by_cases zk : K j = 1
    · have a := H j hj zk
      have hr : rk j < k + 1 := by
        rcases c with c | c | c
        · exact absurd zk c
        · omega
        · omega
      rw [ec_st_y zk, he j hj zk, J (f j) (hf j hj) (Or.inr (Or.inl (by omega))), J (h j) (hh j hj) (Or.inr (Or.inl (by omega)))]
    · rw [ec_st_n (Or.inr zk)]
      exact J j hj (Or.inl zk)
  · rw [ec_st_n (Or.inl z)]
    apply J j hj
    rcases c with c | c | c
    · exact Or.inl c
    · exact Or.inr (Or.inl c)
    · exact Or.inr (Or.inr ⟨c.1, by omega⟩)
theorem ec_J_sw (hf : ec_In f) (hh : ec_In h) (H : ec_Rk K f h rk) {e W : Nat → Int32} (he : ec_Set K f h O e) {k : Nat}
    (J : ec_J K rk e W k 0) : ∀ i, i ≤ 12 → ec_J K rk e (ec_sw K f h O W i) k i := by
  intro i
  induction i with
  | zero => exact fun _ => J
  | succ i ih =>
    intro hi
    exact ec_J_st hf hh H he (by omega) (ih (by omega))
theorem ec_J_se (hf : ec_In f) (hh : ec_In h) (H : ec_Rk K f h rk) {e W : Nat → Int32} (he : ec_Set K f h O e)
    (J : ec_J K rk e W 0 0) : ∀ k, ec_J K rk e (ec_se K f h O W k) k 0 := by
  intro k
  induction k with
  | zero => exact J
  | succ k ih =>
    have a := ec_J_sw hf hh H he ih 12 (by omega)
    intro j hj c
    apply a j hj
    rcases c with c | c | c
    · exact Or.inl c
    · exact Or.inr (Or.inr ⟨c, hj⟩)
    · omega
/-- twelve rounds settle the circuit -/
theorem ec_settled (hf : ec_In f) (hh : ec_In h) (H : ec_Rk K f h rk) (V : Nat → Int32) : ec_Set K f h O (ec_se K f h O V 12) := by
  obtain ⟨r, R, hr⟩ := ec_rk12 hf hh H
  have he : ec_Set K f h O (ec_E K f h O V 12) := by
    intro i hi hk
    have a := R i hi hk
    have b := hr i hi
    rw [ec_E_stab hf hh R 12 13 i hi (by omega) (by omega)]
    show (if K i = 1 then ec_g (O i) (ec_E K f h O V 12 (f i)) (ec_E K f h O V 12 (h i)) else V i) = _
    rw [if_pos hk]
  have J0 : ec_J K r (ec_E K f h O V 12) V 0 0 := by
    intro j hj c
    rcases c with c | c | c
    · show V j = (if K j = 1 then ec_g (O j) (ec_E K f h O V 11 (f j)) (ec_E K f h O V 11 (h j)) else V j)
      rw [if_neg c]
    · omega
    · omega
  have J := ec_J_se hf hh R he J0 12
  have eq : ∀ j, j < 12 → ec_se K f h O V 12 j = ec_E K f h O V 12 j := fun j hj => J j hj (Or.inr (Or.inl (hr j hj)))
  intro i hi hk
  rw [eq i hi, eq _ (hf i hi), eq _ (hh i hi)]
  exact he i hi hk
theorem ec_sw_n {j : Nat} (hj : K j ≠ 1) : ∀ i, ec_sw K f h O V i j = V j := by
  intro i
  induction i with
  | zero => rfl
  | succ i ih =>
    show ec_st K f h O (ec_sw K f h O V i) i j = V j
    rw [ec_st_n, ih]
    by_cases e : j = i
    · rw [← e]; exact Or.inr hj
    · exact Or.inl e
/-- only wires change -/
theorem ec_se_n {j : Nat} (hj : K j ≠ 1) : ∀ k, ec_se K f h O V k j = V j := by
  intro k
  induction k with
  | zero => rfl
  | succ k ih =>
    show ec_sw K f h O (ec_se K f h O V k) 12 j = V j
    rw [ec_sw_n hj, ih]
theorem ec_sw_fix (S : ec_Set K f h O V) : ∀ i, i ≤ 12 → ec_sw K f h O V i = V := by
  intro i
  induction i with
  | zero => exact fun _ => rfl
  | succ i ih =>
    intro hi
    show ec_st K f h O (ec_sw K f h O V i) i = V
    rw [ih (by omega)]
    unfold ec_st
    by_cases z : K i = 1
    · rw [if_pos z, ← S i (by omega) z]
      funext j
      by_cases e : j = i
      · rw [e]; exact pk_us
      · exact pk_un e
    · rw [if_neg z]
/-- a settled circuit stays as it is -/
theorem ec_se_fix (S : ec_Set K f h O V) : ∀ k, ec_se K f h O V k = V := by
  intro k
  induction k with
  | zero => rfl
  | succ k ih =>
    show ec_sw K f h O (ec_se K f h O V k) 12 = V
    rw [ih]
    exact ec_sw_fix S 12 (by omega)
end ECS
/-! ===== values lie in 0 .. 15 ===== -/
def ec_V15 (V : Nat → Int32) : Prop := ∀ i, i < 12 → ∃ n, n < 16 ∧ V i = nI n
theorem ec_g15t0 : ∀ p, p < 16 → ∀ q, q < 16 → ∃ n, n < 16 ∧ nI p &&& nI q = nI n := by decide +kernel
theorem ec_g15t1 : ∀ p, p < 16 → ∀ q, q < 16 → ∃ n, n < 16 ∧ nI p ||| nI q = nI n := by decide +kernel
theorem ec_g15t2 : ∀ p, p < 16 → ∀ q, q < 16 → ∃ n, n < 16 ∧ nI p ^^^ nI q = nI n := by decide +kernel
theorem ec_g15t3 : ∀ p, p < 16 → ∀ q, q < 16 → ∃ n, n < 16 ∧ (nI p + nI q) &&& 15 = nI n := by decide +kernel
theorem ec_g15t4 : ∀ p, p < 16 → ∀ q, q < 16 → ∃ n, n < 16 ∧ (nI p - nI q) &&& 15 = nI n := by decide +kernel
theorem ec_g15t7 : ∀ p, p < 16 → ∃ n, n < 16 ∧ 15 - nI p = nI n := by decide +kernel
theorem ec_g15 (o : Int32) {x y : Int32} (hx : ∃ n, n < 16 ∧ x = nI n) (hy : ∃ n, n < 16 ∧ y = nI n) : ∃ n, n < 16 ∧ ec_g o x y = nI n := by
  obtain ⟨p, hp, rfl⟩ := hx
  obtain ⟨q, hq, rfl⟩ := hy
  unfold ec_g
  split
  · exact ec_g15t0 p hp q hq
  split
  · exact ec_g15t1 p hp q hq
  split
  · exact ec_g15t2 p hp q hq
  split
  · exact ec_g15t3 p hp q hq
  split
  · exact ec_g15t4 p hp q hq
  split
  · split
    · exact ⟨0, by omega, rfl⟩
    · exact ⟨1, by omega, rfl⟩
  split
  · exact ⟨p, hp, rfl⟩
  split
  · exact ec_g15t7 p hp
  split
  · exact ⟨q, hq, rfl⟩
  · exact ec_g15t7 q hq
theorem ec_V15_upd {V : Nat → Int32} {i : Nat} {x : Int32} (h : ec_V15 V) (hx : ∃ n, n < 16 ∧ x = nI n) : ec_V15 (upd V i x) := by
  intro j hj
  by_cases e : j = i
  · rw [e, pk_us]; exact hx
  · rw [pk_un e]; exact h j hj
theorem ec_V15_sw {K : Nat → Int32} {f h : Nat → Nat} {O V : Nat → Int32} (hf : ec_In f) (hh : ec_In h) (H : ec_V15 V) : ∀ i, i ≤ 12 → ec_V15 (ec_sw K f h O V i) := by
  intro i
  induction i with
  | zero => exact fun _ => H
  | succ i ih =>
    intro hi
    have a := ih (by omega)
    show ec_V15 (ec_st K f h O (ec_sw K f h O V i) i)
    unfold ec_st
    by_cases z : K i = 1
    · rw [if_pos z]
      exact ec_V15_upd a (ec_g15 _ (a _ (hf i (by omega))) (a _ (hh i (by omega))))
    · rw [if_neg z]; exact a
theorem ec_V15_se {K : Nat → Int32} {f h : Nat → Nat} {O V : Nat → Int32} (hf : ec_In f) (hh : ec_In h) (H : ec_V15 V) : ∀ k, ec_V15 (ec_se K f h O V k) := by
  intro k
  induction k with
  | zero => exact H
  | succ k ih => exact ec_V15_sw hf hh ih 12 (by omega)
end
section
/-! ===== an input changes ===== -/
def ec_ck (K : Nat → Int32) (f h : Nat → Nat) (O C : Nat → Int32) (c : Int32) (V : Nat → Int32) : Nat → (Nat → Int32)
  | 0 => V
  | i + 1 => if K i = 2 ∧ C i = c then upd (ec_ck K f h O C c V i) i (ec_g (O i) (V (f i)) (V (h i))) else ec_ck K f h O C c V i
/-- does the clock rise -/
def ec_up (a x : Int32) : Bool := decide (a &&& 1 = 0) && decide (x &&& 1 = 1)
def ec_cv (K : Nat → Int32) (f h : Nat → Nat) (O C : Nat → Int32) (s : Nat) (x : Int32) (V : Nat → Int32) : Nat → Int32 :=
  if ec_up (V s) x = true then ec_ck K f h O C (nI s) V 12 else V
def ec_ch (K : Nat → Int32) (f h : Nat → Nat) (O C : Nat → Int32) (s : Nat) (x : Int32) (V : Nat → Int32) : Nat → Int32 :=
  ec_se K f h O (upd (ec_cv K f h O C s x V) s x) 12
/-- how many registers take another value -/
def ec_rc (K : Nat → Int32) (f h : Nat → Nat) (O C : Nat → Int32) (s : Nat) (x : Int32) (V : Nat → Int32) : Nat :=
  ec_cnt (fun r => ec_up (V s) x && decide (K r = 2 ∧ C r = nI s) && !decide (V r = ec_g (O r) (V (f r)) (V (h r)))) 12
section ECC
variable {K : Nat → Int32} {f h rk : Nat → Nat} {O C V : Nat → Int32} {c : Int32}
theorem ec_ck_hi : ∀ i j, i ≤ j → ec_ck K f h O C c V i j = V j := by
  intro i
  induction i with
  | zero => exact fun _ _ => rfl
  | succ i ih =>
    intro j hj
    simp only [ec_ck]
    split
    · rw [pk_un (by omega)]; exact ih j (by omega)
    · exact ih j (by omega)
theorem ec_ck_lo : ∀ i j, j < i → ec_ck K f h O C c V i j = if K j = 2 ∧ C j = c then ec_g (O j) (V (f j)) (V (h j)) else V j := by
  intro i
  induction i with
  | zero => intro j z; omega
  | succ i ih =>
    intro j hj
    simp only [ec_ck]
    by_cases e : j = i
    · subst e
      by_cases z : K j = 2 ∧ C j = c
      · rw [if_pos z, if_pos z]; exact pk_us
      · rw [if_neg z, if_neg z]; exact ec_ck_hi j j (Nat.le_refl j)
    · split
      · rw [pk_un e]; exact ih j (by omega)
      · exact ih j (by omega)
theorem ec_ck15 (hf : ec_In f) (hh : ec_In h) (H : ec_V15 V) : ∀ i, i ≤ 12 → ec_V15 (ec_ck K f h O C c V i) := by
  intro i
  induction i with
  | zero => exact fun _ => H
  | succ i ih =>
    intro hi
    simp only [ec_ck]
    split
    · exact ec_V15_upd (ih (by omega)) (ec_g15 _ (H _ (hf i (by omega))) (H _ (hh i (by omega))))
    · exact ih (by omega)
theorem ec_cv15 (hf : ec_In f) (hh : ec_In h) (H : ec_V15 V) {s : Nat} {x : Int32} : ec_V15 (ec_cv K f h O C s x V) := by
  unfold ec_cv
  split
  · exact ec_ck15 hf hh H 12 (by omega)
  · exact H
theorem ec_ch15 (hf : ec_In f) (hh : ec_In h) (H : ec_V15 V) {s : Nat} {x : Int32} (hx : ∃ n, n < 16 ∧ x = nI n) : ec_V15 (ec_ch K f h O C s x V) :=
  ec_V15_se hf hh (ec_V15_upd (ec_cv15 hf hh H) hx) 12
/-- what a register holds afterwards -/
theorem ec_ch_reg {s : Nat} {x : Int32} (hs : K s = 0) {r : Nat} (hr : r < 12) (hk : K r = 2) :
    ec_ch K f h O C s x V r = if ec_up (V s) x = true ∧ C r = nI s then ec_g (O r) (V (f r)) (V (h r)) else V r := by
  have n1 : K r ≠ 1 := by rw [hk]; decide
  have ns : r ≠ s := by
    intro e
    rw [e, hs] at hk
    exact absurd hk (by decide)
  unfold ec_ch
  rw [ec_se_n n1, pk_un ns]
  unfold ec_cv
  by_cases u : ec_up (V s) x = true
  · rw [if_pos u, ec_ck_lo 12 r hr]
    by_cases z : C r = nI s
    · rw [if_pos ⟨hk, z⟩, if_pos ⟨u, z⟩]
    · rw [if_neg (fun y => z y.2), if_neg (fun y => z y.2)]
  · rw [if_neg u, if_neg (fun y => u y.1)]
theorem ec_rc_x {s : Nat} {x : Int32} (hs : K s = 0) {bx : Nat → Int32} (hb : ∀ j, j < 12 → bx j = V j) :
    ec_cnt (fun r => decide (K r = 2) && !decide (ec_ch K f h O C s x V r = bx r)) 12 = ec_rc K f h O C s x V := by
  unfold ec_rc
  apply ec_cnt_eq
  intro r hr
  rw [hb r hr]
  by_cases hk : K r = 2
  · rw [ec_ch_reg hs hr hk]
    by_cases u : ec_up (V s) x = true
    · by_cases z : C r = nI s
      · rw [if_pos ⟨u, z⟩, u]
        simp only [hk, z, decide_true, Bool.true_and, and_self]
        rw [eq_comm]
        simp only [eq_comm]
      · rw [if_neg (fun y => z y.2)]
        simp [z]
    · rw [if_neg (fun y => u y.1)]
      simp [u]
  · simp [hk]
end ECC
theorem ec_par : ∀ m, m < 16 → ((nI m - nI m / 2 * 2 = 0 ↔ nI m &&& 1 = 0) ∧ (nI m - nI m / 2 * 2 = 1 ↔ nI m &&& 1 = 1)) := by decide +kernel
/-! ===== depth ===== -/
def ec_D (K : Nat → Int32) (f h : Nat → Nat) : Nat → Nat → Nat
  | 0, _ => 0
  | k + 1, i => if K i = 1 then max (ec_D K f h k (f i)) (ec_D K f h k (h i)) + 1 else 0
def ec_Dep (K : Nat → Int32) (f h d : Nat → Nat) : Prop :=
  (∀ i, i < 12 → d i ≤ 12) ∧ (∀ i, i < 12 → K i = 1 → d i = max (d (f i)) (d (h i)) + 1) ∧ (∀ i, i < 12 → K i ≠ 1 → d i = 0)
def ec_mx (d : Nat → Nat) : Nat → Nat
  | 0 => 0
  | n + 1 => max (ec_mx d n) (d n)
theorem ec_mx_ge (d : Nat → Nat) : ∀ n i, i < n → d i ≤ ec_mx d n := by
  intro n
  induction n with
  | zero => intro i z; omega
  | succ n ih =>
    intro i hi
    simp only [ec_mx]
    by_cases e : i = n
    · rw [e]; omega
    · have := ih i (by omega); omega
theorem ec_mx_le (d : Nat → Nat) {b : Nat} : ∀ n, (∀ i, i < n → d i ≤ b) → ec_mx d n ≤ b := by
  intro n
  induction n with
  | zero => exact fun _ => Nat.zero_le b
  | succ n ih =>
    intro H
    have a := ih (fun i hi => H i (by omega))
    have c := H n (by omega)
    simp only [ec_mx]
    omega
section ECD
variable {K : Nat → Int32} {f h rk : Nat → Nat}
theorem ec_D_le : ∀ k i, ec_D K f h k i ≤ k := by
  intro k
  induction k with
  | zero => exact fun _ => Nat.le_refl 0
  | succ k ih =>
    intro i
    have a := ih (f i)
    have b := ih (h i)
    simp only [ec_D]
    split <;> omega
theorem ec_D_stab (hf : ec_In f) (hh : ec_In h) (H : ec_Rk K f h rk) : ∀ k j i, i < 12 → rk i < k → rk i < j → ec_D K f h k i = ec_D K f h j i := by
  intro k
  induction k with
  | zero => intro j i _ z; omega
  | succ k ih =>
    intro j i hi hk hj
    cases j with
    | zero => omega
    | succ j =>
      simp only [ec_D]
      by_cases z : K i = 1
      · have a := H i hi z
        rw [if_pos z, if_pos z, ih j (f i) (hf i hi) (by omega) (by omega), ih j (h i) (hh i hi) (by omega) (by omega)]
      · rw [if_neg z, if_neg z]
theorem ec_dep (hf : ec_In f) (hh : ec_In h) (H : ec_Rk K f h rk) : ec_Dep K f h (ec_D K f h 12) := by
  obtain ⟨r, R, hr⟩ := ec_rk12 hf hh H
  refine ⟨fun i _ => ec_D_le 12 i, fun i hi hk => ?_, fun i hi hk => ?_⟩
  · have a := hr i hi
    rw [ec_D_stab hf hh R 12 13 i hi (by omega) (by omega)]
    show (if K i = 1 then max (ec_D K f h 12 (f i)) (ec_D K f h 12 (h i)) + 1 else 0) = _
    rw [if_pos hk]
  · show (if K i = 1 then max (ec_D K f h 11 (f i)) (ec_D K f h 11 (h i)) + 1 else 0) = 0
    rw [if_neg hk]
/-- Y's table of lengths in round k at signal i: q, and the greatest seen: m -/
def ec_Q (K : Nat → Int32) (rk d q : Nat → Nat) (m k i : Nat) : Prop :=
  (∀ j, j < 12 → q j ≤ d j ∧ q j ≤ m ∧ ((K j ≠ 1 ∨ rk j < k ∨ (rk j < k + 1 ∧ j < i)) → q j = d j)) ∧ m ≤ ec_mx d 12
theorem ec_Q_y (hf : ec_In f) (hh : ec_In h) (H : ec_Rk K f h rk) {d q : Nat → Nat} {m k i : Nat} (D : ec_Dep K f h d) (hi : i < 12) (hk : K i = 1)
    (Q : ec_Q K rk d q m k i) {z m' : Nat} (hz : z = max (q (f i)) (q (h i)) + 1) (hm : m' = max m z) :
    ec_Q K rk d (fun j => if j = i then z else q j) m' k (i + 1) := by
  have df := Q.1 (f i) (hf i hi)
  have dh := Q.1 (h i) (hh i hi)
  have e := D.2.1 i hi hk
  have a := H i hi hk
  have zd : z ≤ d i := by omega
  have g := ec_mx_ge d 12 i hi
  refine ⟨fun j hj => ?_, by have := Q.2; omega⟩
  dsimp only
  by_cases ej : j = i
  · subst ej
    rw [if_pos rfl]
    refine ⟨zd, by omega, fun c => ?_⟩
    have hr : rk j < k + 1 := by
      rcases c with c | c | c
      · exact absurd hk c
      · omega
      · omega
    have := df.2.2 (Or.inr (Or.inl (by omega)))
    have := dh.2.2 (Or.inr (Or.inl (by omega)))
    omega
  · rw [if_neg ej]
    have b := Q.1 j hj
    refine ⟨b.1, by omega, fun c => b.2.2 ?_⟩
    rcases c with c | c | c
    · exact Or.inl c
    · exact Or.inr (Or.inl c)
    · exact Or.inr (Or.inr ⟨c.1, by omega⟩)
theorem ec_Q_n {d q : Nat → Nat} {m k i : Nat} (hk : K i ≠ 1) (Q : ec_Q K rk d q m k i) : ec_Q K rk d q m k (i + 1) := by
  refine ⟨fun j hj => ?_, Q.2⟩
  have b := Q.1 j hj
  refine ⟨b.1, b.2.1, fun c => b.2.2 ?_⟩
  rcases c with c | c | c
  · exact Or.inl c
  · exact Or.inr (Or.inl c)
  · by_cases e : j = i
    · rw [e]; exact Or.inl hk
    · exact Or.inr (Or.inr ⟨c.1, by omega⟩)
theorem ec_Q_r {d q : Nat → Nat} {m k : Nat} (Q : ec_Q K rk d q m k 12) : ec_Q K rk d q m (k + 1) 0 := by
  refine ⟨fun j hj => ?_, Q.2⟩
  have b := Q.1 j hj
  refine ⟨b.1, b.2.1, fun c => b.2.2 ?_⟩
  rcases c with c | c | c
  · exact Or.inl c
  · exact Or.inr (Or.inr ⟨c, hj⟩)
  · omega
theorem ec_Q_e {d q : Nat → Nat} {m : Nat} (hr : ∀ i, i < 12 → rk i < 12) (Q : ec_Q K rk d q m 12 0) : m = ec_mx d 12 := by
  have a : ec_mx d 12 ≤ m := ec_mx_le d 12 (fun i hi => by
    have b := Q.1 i hi
    have := b.2.2 (Or.inr (Or.inl (hr i hi)))
    omega)
  have := Q.2
  omega
end ECD
end
section
/-! ===== the component's walks ===== -/
def ec_Ok (A : Nat → Int32) : Prop := ∀ i, i < 12 → vp_in (A i) 12
theorem ec_ixe {A : Nat → Int32} (H : ec_Ok A) {i : Nat} (hi : i < 12) : ec_ix A i < 12 ∧ A i = nI (ec_ix A i) := by
  obtain ⟨j, hj, e⟩ := vp_in_of (H i hi) (by decide)
  have c : ec_ix A i = j := by
    unfold ec_ix
    rw [e]
    exact nI_clamp (by omega)
  rw [c]
  exact ⟨hj, e⟩
theorem ec_ixin {A : Nat → Int32} (H : ec_Ok A) : ec_In (ec_ix A) := fun i hi => (ec_ixe H hi).1
theorem ec_gd {o p q : Int32} (h0 : o ≠ 0) (h1 : o ≠ 1) (h2 : o ≠ 2) (h3 : o ≠ 3) (h4 : o ≠ 4) (h5 : o ≠ 5) (h6 : o ≠ 6) (h7 : o ≠ 7) : ec_g o p q = if p = 0 then q else 15 - q := by
  unfold ec_g
  rw [if_neg h0, if_neg h1, if_neg h2, if_neg h3, if_neg h4, if_neg h5, if_neg h6, if_neg h7]
theorem ec_ne {o c : Int32} (P : Int32 → Prop) (h : P o) (n : ¬ P c) : o ≠ c := fun e => n (e ▸ h)
theorem ec_xres (post : Int32 → Prop) (o p q : Int32) (H : post (ec_g o p q)) : wpX_result post o p q := by
  unfold wpX_result
  by_cases hn : o < 0
  · refine br_t hn ?_
    have c : ∀ x : Int32, ¬ x < 0 → o ≠ x := fun x hx => ec_ne (fun y => y < 0) hn hx
    rw [ec_gd (c 0 (by decide)) (c 1 (by decide)) (c 2 (by decide)) (c 3 (by decide)) (c 4 (by decide)) (c 5 (by decide)) (c 6 (by decide)) (c 7 (by decide))] at H
    by_cases hp : p = 0
    · rw [if_pos hp] at H; exact br_t hp H
    · rw [if_neg hp] at H; exact br_f hp H
  refine br_f hn ?_
  by_cases h7 : 7 < o
  · refine br_t h7 ?_
    have c : ∀ x : Int32, ¬ 7 < x → o ≠ x := fun x hx => ec_ne (fun y => 7 < y) h7 hx
    rw [ec_gd (c 0 (by decide)) (c 1 (by decide)) (c 2 (by decide)) (c 3 (by decide)) (c 4 (by decide)) (c 5 (by decide)) (c 6 (by decide)) (c 7 (by decide))] at H
    by_cases hp : p = 0
    · rw [if_pos hp] at H; exact br_t hp H
    · rw [if_neg hp] at H; exact br_f hp H
  refine br_f h7 ?_
  unfold ec_g at H
  by_cases e0 : o = 0
  · rw [if_pos e0] at H; exact br_t e0 H
  rw [if_neg e0] at H
  refine br_f e0 ?_
  by_cases e1 : o = 1
  · rw [if_pos e1] at H; exact br_t e1 H
  rw [if_neg e1] at H
  refine br_f e1 ?_
  by_cases e2 : o = 2
  · rw [if_pos e2] at H; exact br_t e2 H
  rw [if_neg e2] at H
  refine br_f e2 ?_
  by_cases e3 : o = 3
  · rw [if_pos e3] at H; exact br_t e3 H
  rw [if_neg e3] at H
  refine br_f e3 ?_
  by_cases e4 : o = 4
  · rw [if_pos e4] at H; exact br_t e4 H
  rw [if_neg e4] at H
  refine br_f e4 ?_
  by_cases e5 : o = 5
  · rw [if_pos e5] at H
    refine br_t e5 ?_
    by_cases hq : q ≤ p
    · rw [if_pos hq] at H; exact br_t hq H
    · rw [if_neg hq] at H; exact br_f hq H
  rw [if_neg e5] at H
  refine br_f e5 ?_
  by_cases e6 : o = 6
  · rw [if_pos e6] at H; exact br_t e6 H
  rw [if_neg e6] at H
  refine br_f e6 ?_
  by_cases e7 : o = 7
  · rw [if_pos e7] at H; exact br_t e7 H
  · exact br_f e7 trivial
section ECX
variable {K V O A B C bx : Nat → Int32} {s : Nat}
theorem ec_xst10 {post : SX → Prop} {J2 : Int32 → (Nat → Int32) → (Nat → Int32) → (Nat → Int32) → (Nat → Int32) → (Nat → Int32) → (Nat → Int32) → (Nat → Int32) → Prop} {x1 : Int32} (HA : ec_Ok A) (HB : ec_Ok B)
    (W : Nat → Int32) (H : J2 (x1 + 1) K (ec_sw K (ec_ix A) (ec_ix B) O W 12) O A B C bx) : ∀ d i, i + d = 12 → wX_settle_10 post J2 x1 (d + 1) (nI i) K (ec_sw K (ec_ix A) (ec_ix B) O W i) O A B C bx := by
  intro d
  induction d with
  | zero =>
    intro i hi
    obtain rfl : i = 12 := by omega
    exact br_t ec_12 (nm_e H)
  | succ d ih =>
    intro i hi
    have hi' : i < 12 := by omega
    have I := ec_in hi'
    have n := ih (i + 1) (by omega)
    rw [wX_settle_10]
    dsimp only
    rw [ec_cl hi']
    refine br_f (ec_ge hi') ⟨I, ?_⟩
    by_cases z : K i = 1
    · have es : ec_sw K (ec_ix A) (ec_ix B) O W (i + 1) = upd (ec_sw K (ec_ix A) (ec_ix B) O W i) i (ec_g (O i) (ec_sw K (ec_ix A) (ec_ix B) O W i (ec_ix A i)) (ec_sw K (ec_ix A) (ec_ix B) O W i (ec_ix B i))) := if_pos z
      rw [es] at n
      exact br_t z ⟨I, I, HA i hi', I, HB i hi', ec_xres _ _ _ _ ⟨I, nm_e (nm_r (nI_1 i) n)⟩⟩
    · have es : ec_sw K (ec_ix A) (ec_ix B) O W (i + 1) = ec_sw K (ec_ix A) (ec_ix B) O W i := if_neg z
      rw [es] at n
      exact br_f z (nm_r (nI_1 i) n)
theorem ec_xst2 {post : SX → Prop} (HA : ec_Ok A) (HB : ec_Ok B) (W : Nat → Int32) (H : post (K, ec_se K (ec_ix A) (ec_ix B) O W 12, O, A, B, C, bx)) :
    ∀ d k, k + d = 12 → wX_settle_2 post (d + 1) (nI k) K (ec_se K (ec_ix A) (ec_ix B) O W k) O A B C bx := by
  intro d
  induction d with
  | zero =>
    intro i hi
    obtain rfl : i = 12 := by omega
    exact br_t ec_12 H
  | succ d ih =>
    intro k hk
    have n := ih (k + 1) (by omega)
    rw [← nI_1] at n
    exact br_f (ec_ge (by omega)) ⟨13, ec_xst10 HA HB (ec_se K (ec_ix A) (ec_ix B) O W k) n 12 0 rfl⟩
theorem ec_xsettle {post : SX → Prop} (HA : ec_Ok A) (HB : ec_Ok B) {W : Nat → Int32} (H : post (K, ec_se K (ec_ix A) (ec_ix B) O W 12, O, A, B, C, bx)) :
    wpX_settle post (K, W, O, A, B, C, bx) := ⟨13, ec_xst2 HA HB W H 12 0 rfl⟩
/-! the sets of wires -/
theorem ec_xwr4 {post : Int32 → Prop} (HA : ec_Ok A) (HB : ec_Ok B) (m : Int32)
    (H : ∀ r, (∀ i, i < 32 → (bt r i = true ↔ (i < 12 ∧ K i = 1 ∧ (bt m (ec_ix A i) = true ∨ bt m (ec_ix B i) = true)))) → post r) :
    ∀ d j x2, j + d = 12 → (∀ i, i < 32 → (bt x2 i = true ↔ (i < j ∧ K i = 1 ∧ (bt m (ec_ix A i) = true ∨ bt m (ec_ix B i) = true)))) → wX_wiresReading_4 post m K V O A B C bx (d + 1) x2 (nI j) := by
  intro d
  induction d with
  | zero =>
    intro j x2 hj hx
    obtain rfl : j = 12 := by omega
    exact br_t ec_12 (H x2 hx)
  | succ d ih =>
    intro j x2 hj hx
    have hj' : j < 12 := by omega
    have I := ec_in hj'
    have ea := ec_ixe HA hj'
    have eb := ec_ixe HB hj'
    rw [wX_wiresReading_4]
    dsimp only
    rw [ec_cl hj']
    refine br_f (ec_ge hj') ⟨I, ?_⟩
    by_cases z : K j = 1
    · refine br_t z ⟨I, I, nm_e ?_⟩
      rw [ea.2, eb.2]
      by_cases y : bt m (ec_ix A j) = true ∨ bt m (ec_ix B j) = true
      · refine br_f (fun c => (ec_rdt ea.1 eb.1).mp c y) (nm_e (nm_r (nI_1 j) (ih (j + 1) _ (by omega) ?_)))
        intro i hi
        rw [b_or, ec_one j hj' i hi, Bool.or_eq_true, hx i hi, decide_eq_true_eq]
        constructor
        · rintro (c | rfl)
          · exact ⟨by omega, c.2⟩
          · exact ⟨by omega, z, y⟩
        · rintro ⟨c1, c2⟩
          by_cases e : i = j
          · exact Or.inr e
          · exact Or.inl ⟨by omega, c2⟩
      · refine br_t ((ec_rdt ea.1 eb.1).mpr y) (nm_e (nm_r (nI_1 j) (ih (j + 1) _ (by omega) ?_)))
        intro i hi
        rw [b_or, b_0, Bool.or_false, hx i hi]
        constructor
        · rintro ⟨c1, c2⟩
          exact ⟨by omega, c2⟩
        · rintro ⟨c1, c2⟩
          by_cases e : i = j
          · subst e; exact absurd c2.2 y
          · exact ⟨by omega, c2⟩
    · refine br_f z (nm_r (nI_1 j) (ih (j + 1) _ (by omega) ?_))
      intro i hi
      rw [hx i hi]
      constructor
      · rintro ⟨c1, c2⟩
        exact ⟨by omega, c2⟩
      · rintro ⟨c1, c2⟩
        by_cases e : i = j
        · subst e; exact absurd c2.1 z
        · exact ⟨by omega, c2⟩
theorem ec_xwr {post : Int32 → Prop} (HA : ec_Ok A) (HB : ec_Ok B) (m : Int32)
    (H : ∀ r, (∀ i, i < 32 → (bt r i = true ↔ (i < 12 ∧ K i = 1 ∧ (bt m (ec_ix A i) = true ∨ bt m (ec_ix B i) = true)))) → post r) :
    wpX_wiresReading post (K, V, O, A, B, C, bx) m := by
  refine ⟨13, ec_xwr4 HA HB m H 12 0 0 rfl ?_⟩
  intro i hi
  rw [b_0]
  constructor
  · intro c; exact absurd c (by decide)
  · intro c; omega
theorem ec_xwo4 {post : Int32 → Prop} (HA : ec_Ok A) (HB : ec_Ok B) (hs : s < 12)
    (H : ∀ r, (∀ i, i < 32 → (bt r i = true ↔ (i < 12 ∧ ec_F K (ec_ix A) (ec_ix B) s 12 i))) → post r) :
    ∀ d k x2, k + d = 12 → (∀ i, i < 32 → (bt x2 i = true ↔ (i < 12 ∧ ec_F K (ec_ix A) (ec_ix B) s k i))) → wX_wiresOn_4 post (nI s) K V O A B C bx (d + 1) x2 (nI k) := by
  intro d
  induction d with
  | zero =>
    intro j x2 hj hx
    obtain rfl : j = 12 := by omega
    exact br_t ec_12 (H x2 hx)
  | succ d ih =>
    intro k x2 hk hx
    refine br_f (ec_ge (by omega)) (ec_xwr HA HB _ fun r hr => nm_r (nI_1 k) (ih (k + 1) r (by omega) ?_))
    intro i hi
    rw [hr i hi]
    have bm : ∀ t, t < 12 → (bt (x2 ||| ((1 : Int32) <<< (nI s &&& 31))) t = true ↔ (t = s ∨ ec_F K (ec_ix A) (ec_ix B) s k t)) := by
      intro t ht
      rw [b_or, ec_one s hs t (by omega), Bool.or_eq_true, hx t (by omega), decide_eq_true_eq]
      constructor
      · rintro (c | c)
        · exact Or.inr c.2
        · exact Or.inl c
      · rintro (c | c)
        · exact Or.inr c
        · exact Or.inl ⟨ht, c⟩
    constructor
    · rintro ⟨c1, c2, c3⟩
      rw [bm _ (ec_ixin HA i c1), bm _ (ec_ixin HB i c1)] at c3
      exact ⟨c1, c2, c3⟩
    · rintro ⟨c1, c2, c3⟩
      refine ⟨c1, c2, ?_⟩
      rw [bm _ (ec_ixin HA i c1), bm _ (ec_ixin HB i c1)]
      exact c3
theorem ec_xwo {post : Int32 → Prop} (HA : ec_Ok A) (HB : ec_Ok B) (hs : s < 12)
    (H : ∀ r, (∀ i, i < 32 → (bt r i = true ↔ (i < 12 ∧ ec_F K (ec_ix A) (ec_ix B) s 12 i))) → post r) :
    wpX_wiresOn post (K, V, O, A, B, C, bx) (nI s) := by
  refine ⟨13, ec_xwo4 HA HB hs H 12 0 0 rfl ?_⟩
  intro i hi
  rw [b_0]
  constructor
  · intro c; exact absurd c (by decide)
  · intro c; exact c.2.elim
theorem ec_xcirc {post : Int32 → Prop} (HA : ec_Ok A) (HB : ec_Ok B) (hs : s < 12) {a b : Nat} (ha : a < 12) (hb : b < 12)
    (H0 : ¬ ((a = s ∨ ec_F K (ec_ix A) (ec_ix B) s 12 a) ∨ (b = s ∨ ec_F K (ec_ix A) (ec_ix B) s 12 b)) → post 0)
    (H1 : ((a = s ∨ ec_F K (ec_ix A) (ec_ix B) s 12 a) ∨ (b = s ∨ ec_F K (ec_ix A) (ec_ix B) s 12 b)) → post 1) :
    wpX_wouldCircle post (K, V, O, A, B, C, bx) (nI s) (nI a) (nI b) := by
  refine ec_xwo (post := fun r_1 => ∀ x4_9 : Int32, x4_9 = r_1 ||| ((1 : Int32) <<< (nI s &&& 31)) → ∀ x5_10 : Int32, x5_10 = ((1 : Int32) <<< (nI a &&& 31)) ||| ((1 : Int32) <<< (nI b &&& 31)) → (((x4_9 &&& x5_10) = 0 → (post 0)) ∧ (¬ (x4_9 &&& x5_10) = 0 → (post 1)))) HA HB hs fun r hr => nm_e (nm_e ?_)
  have bm : ∀ t, t < 12 → (bt (r ||| ((1 : Int32) <<< (nI s &&& 31))) t = true ↔ (t = s ∨ ec_F K (ec_ix A) (ec_ix B) s 12 t)) := by
    intro t ht
    rw [b_or, ec_one s hs t (by omega), Bool.or_eq_true, hr t (by omega), decide_eq_true_eq]
    constructor
    · rintro (c | c)
      · exact Or.inr c.2
      · exact Or.inl c
    · rintro (c | c)
      · exact Or.inr c
      · exact Or.inl ⟨ht, c⟩
  rw [Int32.and_comm, ec_rdt ha hb, bm a ha, bm b hb]
  exact ⟨H0, fun c => H1 (Classical.not_not.mp c)⟩
theorem ec_xput {post : SX → Prop} (hs : s < 12) {o a b : Int32} (H : post (K, V, upd O s o, upd A s a, upd B s b, C, bx)) :
    wpX_putFormula post (K, V, O, A, B, C, bx) (nI s) o a b := by
  have I := ec_in hs
  unfold wpX_putFormula
  dsimp only
  rw [ec_cl hs]
  exact ⟨I, nm_e ⟨I, nm_e ⟨I, nm_e H⟩⟩⟩
end ECX
end
section
/-! ===== the component's walks: an input changes, counts, pulses, depth ===== -/
/-- the values and the count after k pulses -/
def ec_pv (K : Nat → Int32) (f h : Nat → Nat) (O C : Nat → Int32) (s : Nat) (x y : Int32) (V : Nat → Int32) : Nat → (Nat → Int32)
  | 0 => V
  | k + 1 => ec_ch K f h O C s y (ec_ch K f h O C s x (ec_pv K f h O C s x y V k))
def ec_pc (K : Nat → Int32) (f h : Nat → Nat) (O C : Nat → Int32) (s : Nat) (x y : Int32) (V : Nat → Int32) : Nat → Nat
  | 0 => 0
  | k + 1 => ec_pc K f h O C s x y V k + ec_rc K f h O C s x (ec_pv K f h O C s x y V k) + ec_rc K f h O C s y (ec_ch K f h O C s x (ec_pv K f h O C s x y V k))
section ECX2
variable {K V O A B C bx : Nat → Int32} {s : Nat}
theorem ec_xck2 {post : SX → Prop} (HA : ec_Ok A) (HB : ec_Ok B) {c : Int32} (hb : ∀ j, j < 12 → bx j = V j)
    (H : post (K, ec_ck K (ec_ix A) (ec_ix B) O C c V 12, O, A, B, C, bx)) :
    ∀ d i, i + d = 12 → wX_clockRegisters_2 post c (d + 1) (nI i) K (ec_ck K (ec_ix A) (ec_ix B) O C c V i) O A B C bx := by
  intro d
  induction d with
  | zero =>
    intro i hi
    obtain rfl : i = 12 := by omega
    exact br_t ec_12 H
  | succ d ih =>
    intro i hi
    have hi' : i < 12 := by omega
    have I := ec_in hi'
    have n := ih (i + 1) (by omega)
    have ea : bx (A i).toNatClampNeg = V (ec_ix A i) := hb _ (ec_ixin HA i hi')
    have eb : bx (B i).toNatClampNeg = V (ec_ix B i) := hb _ (ec_ixin HB i hi')
    rw [wX_clockRegisters_2]
    dsimp only
    rw [ec_cl hi', ea, eb]
    refine br_f (ec_ge hi') ⟨I, ?_⟩
    by_cases z : K i = 2
    · by_cases y : C i = c
      · have es : ec_ck K (ec_ix A) (ec_ix B) O C c V (i + 1) = upd (ec_ck K (ec_ix A) (ec_ix B) O C c V i) i (ec_g (O i) (V (ec_ix A i)) (V (ec_ix B i))) := if_pos ⟨z, y⟩
        rw [es] at n
        exact br_t z ⟨I, br_t y ⟨I, I, HA i hi', I, HB i hi', ec_xres _ _ _ _ ⟨I, nm_e (nm_r (nI_1 i) n)⟩⟩⟩
      · have es : ec_ck K (ec_ix A) (ec_ix B) O C c V (i + 1) = ec_ck K (ec_ix A) (ec_ix B) O C c V i := if_neg (fun w => y w.2)
        rw [es] at n
        exact br_t z ⟨I, br_f y (nm_r (nI_1 i) n)⟩
    · have es : ec_ck K (ec_ix A) (ec_ix B) O C c V (i + 1) = ec_ck K (ec_ix A) (ec_ix B) O C c V i := if_neg (fun w => z w.1)
      rw [es] at n
      exact br_f z (nm_r (nI_1 i) n)
theorem ec_x59 {post : SX → Prop} (HA : ec_Ok A) (HB : ec_Ok B) (hs : s < 12) {x : Int32} {W : Nat → Int32}
    (H : post (K, ec_se K (ec_ix A) (ec_ix B) O (upd W s x) 12, O, A, B, C, bx)) : wX_changeInput_59 post (nI s) x K W O A B C bx := by
  unfold wX_changeInput_59
  rw [ec_cl hs]
  exact ⟨ec_in hs, nm_e (ec_xsettle HA HB H)⟩
theorem ec_xci2 {post : SX → Prop} (HA : ec_Ok A) (HB : ec_Ok B) (hs : s < 12) {x : Int32}
    (H : ∀ bx', (∀ j, j < 12 → bx' j = V j) → post (K, ec_ch K (ec_ix A) (ec_ix B) O C s x V, O, A, B, C, bx')) :
    ∀ d i bx, i + d = 12 → (∀ j, j < i → bx j = V j) → wX_changeInput_2 post (nI s) x (d + 1) (nI i) K V O A B C bx := by
  intro d
  induction d with
  | zero =>
    intro i bx hi hb
    obtain rfl : i = 12 := by omega
    have Hb := H bx hb
    unfold ec_ch ec_cv ec_up at Hb
    rw [← hb s hs] at Hb
    rw [wX_changeInput_2]
    dsimp only
    rw [ec_cl hs]
    refine br_t ec_12 ⟨ec_in hs, ?_⟩
    by_cases z : bx s &&& 1 = 0
    · refine br_t z ?_
      by_cases y : x &&& 1 = 1
      · rw [if_pos (by simp [z, y])] at Hb
        refine br_t y (br_f (by decide) ?_)
        exact ⟨13, ec_xck2 HA HB hb (ec_x59 HA HB hs Hb) 12 0 rfl⟩
      · rw [if_neg (by simp [y])] at Hb
        exact br_f y (br_t rfl (ec_x59 HA HB hs Hb))
    · rw [if_neg (by simp [z])] at Hb
      exact br_f z (br_t rfl (ec_x59 HA HB hs Hb))
  | succ d ih =>
    intro i bx hi hb
    have hi' : i < 12 := by omega
    have I := ec_in hi'
    have n := ih (i + 1) (upd bx i (V i)) (by omega) (fun j hj => by
      by_cases e : j = i
      · rw [e]; exact pk_us
      · rw [pk_un e]; exact hb j (by omega))
    rw [wX_changeInput_2]
    dsimp only
    rw [ec_cl hi']
    exact br_f (ec_ge hi') ⟨I, I, nm_e (nm_r (nI_1 i) n)⟩
theorem ec_xci {post : SX → Prop} (HA : ec_Ok A) (HB : ec_Ok B) (hs : s < 12) {x : Int32}
    (H : ∀ bx', (∀ j, j < 12 → bx' j = V j) → post (K, ec_ch K (ec_ix A) (ec_ix B) O C s x V, O, A, B, C, bx')) :
    wpX_changeInput post (K, V, O, A, B, C, bx) (nI s) x := ⟨13, ec_xci2 HA HB hs H 12 0 bx rfl (fun j hj => by omega)⟩
theorem ec_cnt_t {p : Nat → Bool} {i : Nat} (h : p i = true) : ec_cnt p (i + 1) = ec_cnt p i + 1 := by simp only [ec_cnt, h, if_true]
theorem ec_cnt_f {p : Nat → Bool} {i : Nat} (h : p i = false) : ec_cnt p (i + 1) = ec_cnt p i := by simp [ec_cnt, h]
theorem ec_xset25 {post : Int32 → SX → Prop} (H : post (nI (ec_cnt (fun i => !decide (V i = bx i)) 12)) (K, V, O, A, B, C, bx)) :
    ∀ d i, i + d = 12 → wX_set_25 post K V O A B C bx (d + 1) (nI (ec_cnt (fun i => !decide (V i = bx i)) i)) (nI i) := by
  intro d
  induction d with
  | zero =>
    intro i hi
    obtain rfl : i = 12 := by omega
    exact br_t ec_12 H
  | succ d ih =>
    intro i hi
    have hi' : i < 12 := by omega
    have I := ec_in hi'
    have n := ih (i + 1) (by omega)
    rw [wX_set_25]
    dsimp only
    rw [ec_cl hi']
    refine br_f (ec_ge hi') ⟨I, I, ?_⟩
    by_cases z : V i = bx i
    · rw [ec_cnt_f (by simp [z])] at n
      exact br_t z (nm_r (nI_1 i) n)
    · rw [ec_cnt_t (by simp [z])] at n
      exact br_f z (nm_r (nI_1 _) (nm_r (nI_1 i) n))
theorem ec_xcr4 {post : Int32 → Prop} (H : post (nI (ec_cnt (fun r => decide (K r = 2) && !decide (V r = bx r)) 12))) :
    ∀ d i, i + d = 12 → wX_changedRegisters_4 post K V O A B C bx (d + 1) (nI (ec_cnt (fun r => decide (K r = 2) && !decide (V r = bx r)) i)) (nI i) := by
  intro d
  induction d with
  | zero =>
    intro i hi
    obtain rfl : i = 12 := by omega
    exact br_t ec_12 H
  | succ d ih =>
    intro i hi
    have hi' : i < 12 := by omega
    have I := ec_in hi'
    have n := ih (i + 1) (by omega)
    rw [wX_changedRegisters_4]
    dsimp only
    rw [ec_cl hi']
    refine br_f (ec_ge hi') ⟨I, ?_⟩
    by_cases k : K i = 2
    · refine br_t k ⟨I, I, ?_⟩
      by_cases z : V i = bx i
      · rw [ec_cnt_f (by simp [z])] at n
        exact br_t z (nm_r (nI_1 i) n)
      · rw [ec_cnt_t (by simp [z, k])] at n
        exact br_f z (nm_r (nI_1 _) (nm_r (nI_1 i) n))
    · rw [ec_cnt_f (by simp [k])] at n
      exact br_f k (nm_r (nI_1 i) n)
theorem ec_xcr {post : Int32 → Prop} (H : post (nI (ec_cnt (fun r => decide (K r = 2) && !decide (V r = bx r)) 12))) :
    wpX_changedRegisters post (K, V, O, A, B, C, bx) := ⟨13, ec_xcr4 H 12 0 rfl⟩
theorem ec_xpu {post : Int32 → SX → Prop} (HA : ec_Ok A) (HB : ec_Ok B) (hs : s < 12) (hk0 : K s = 0) {x y p2 : Int32} {T : Nat} (hT : T ≤ 16)
    (hlt : ∀ k, k < T → ¬ p2 ≤ nI k) (he : T = 16 ∨ p2 ≤ nI T)
    (H : ∀ bx', post (nI (ec_pc K (ec_ix A) (ec_ix B) O C s x y V T)) (K, ec_pv K (ec_ix A) (ec_ix B) O C s x y V T, O, A, B, C, bx')) :
    ∀ d k bx, k + d = T → wX_pulse_30 post (nI s) x p2 y (d + 1) (nI (ec_pc K (ec_ix A) (ec_ix B) O C s x y V k)) (nI k) K (ec_pv K (ec_ix A) (ec_ix B) O C s x y V k) O A B C bx := by
  intro d
  induction d with
  | zero =>
    intro k bx hk
    obtain rfl : k = T := by omega
    by_cases z : (16 : Int32) ≤ nI k
    · exact br_t z (H bx)
    · rcases he with e | e
      · subst e
        exact absurd (nI_le (a := 16) (b := 16) (by decide) (by decide)) z
      · exact br_f z (br_t e (H bx))
  | succ d ih =>
    intro k bx hk
    have h16 : ¬ (16 : Int32) ≤ nI k := nI_ge (b := 16) (by omega) (by decide)
    refine br_f h16 (br_f (hlt k (by omega)) ?_)
    refine ec_xci HA HB hs fun b1 hb1 => ec_xcr (nm_e (ec_xci HA HB hs fun b2 hb2 => ec_xcr (nm_e (nm_r (nI_1 k) ?_))))
    rw [ec_rc_x hk0 hb1, ec_rc_x hk0 hb2, nI_add, nI_add]
    exact ih (k + 1) b2 (by omega)
/-! depth -/
theorem ec_xaw4 {post : Int32 → Prop} (H : ∀ r, (∀ i, i < 32 → (bt r i = true ↔ (i < 12 ∧ K i = 1))) → post r) :
    ∀ d j x1, j + d = 12 → (∀ i, i < 32 → (bt x1 i = true ↔ (i < j ∧ K i = 1))) → wX_allWires_4 post K V O A B C bx (d + 1) x1 (nI j) := by
  intro d
  induction d with
  | zero =>
    intro j x2 hj hx
    obtain rfl : j = 12 := by omega
    exact br_t ec_12 (H x2 hx)
  | succ d ih =>
    intro j x2 hj hx
    have hj' : j < 12 := by omega
    rw [wX_allWires_4]
    dsimp only
    rw [ec_cl hj']
    refine br_f (ec_ge hj') ⟨ec_in hj', ?_⟩
    by_cases z : K j = 1
    · refine br_t z (nm_e (nm_r (nI_1 j) (ih (j + 1) _ (by omega) ?_)))
      intro i hi
      rw [b_or, ec_one j hj' i hi, Bool.or_eq_true, hx i hi, decide_eq_true_eq]
      constructor
      · rintro (c | rfl)
        · exact ⟨by omega, c.2⟩
        · exact ⟨by omega, z⟩
      · rintro ⟨c1, c2⟩
        by_cases e : i = j
        · exact Or.inr e
        · exact Or.inl ⟨by omega, c2⟩
    · refine br_f z (nm_r (nI_1 j) (ih (j + 1) _ (by omega) ?_))
      intro i hi
      rw [hx i hi]
      constructor
      · rintro ⟨c1, c2⟩
        exact ⟨by omega, c2⟩
      · rintro ⟨c1, c2⟩
        by_cases e : i = j
        · subst e; exact absurd c2 z
        · exact ⟨by omega, c2⟩
theorem ec_xaw {post : Int32 → Prop} (H : ∀ r, (∀ i, i < 32 → (bt r i = true ↔ (i < 12 ∧ K i = 1))) → post r) :
    wpX_allWires post (K, V, O, A, B, C, bx) := by
  refine ⟨13, ec_xaw4 H 12 0 0 rfl ?_⟩
  intro i hi
  rw [b_0]
  constructor
  · intro c; exact absurd c (by decide)
  · intro c; omega
theorem ec_xd9 {post : Int32 → Prop} (HA : ec_Ok A) (HB : ec_Ok B) {dp : Nat → Nat} (D : ec_Dep K (ec_ix A) (ec_ix B) dp) (H : post (nI (ec_mx dp 12))) :
    ∀ d k x1, k + d = 12 → k ≤ ec_mx dp 12 → (∀ i, i < 32 → (bt x1 i = true ↔ (i < 12 ∧ k < dp i))) → wX_depth_9 post K V O A B C bx (d + 1) x1 (nI k) (nI k) := by
  intro d
  induction d with
  | zero =>
    intro k x1 hk hm hx
    obtain rfl : k = 12 := by omega
    have e : ec_mx dp 12 ≤ 12 := ec_mx_le dp 12 D.1
    rw [show ec_mx dp 12 = 12 by omega] at H
    exact br_t ec_12 H
  | succ d ih =>
    intro k x1 hk hm hx
    refine br_f (ec_ge (by omega)) ?_
    by_cases z : x1 = 0
    · have e : ec_mx dp 12 ≤ k := ec_mx_le dp 12 (fun i hi => by
        have a := hx i (by omega)
        rw [z, b_0] at a
        by_cases q : k < dp i
        · exact absurd (a.mpr ⟨hi, q⟩) (by decide)
        · omega)
      rw [show ec_mx dp 12 = k by omega] at H
      exact br_t z H
    · have e : k + 1 ≤ ec_mx dp 12 := by
        by_cases q : k + 1 ≤ ec_mx dp 12
        · exact q
        · exfalso
          apply z
          rw [ec_z]
          intro i hi
          cases hb : bt x1 i
          · rfl
          · have a := (hx i hi).mp hb
            have b := ec_mx_ge dp 12 i a.1
            omega
      refine br_f z (ec_xwr HA HB x1 fun r hr => nm_r (nI_1 k) (nm_r (nI_1 k) (ih (k + 1) r (by omega) e ?_)))
      intro i hi
      rw [hr i hi]
      constructor
      · rintro ⟨c1, c2, c3⟩
        rw [hx _ (Nat.lt_trans (ec_ixin HA i c1) (by decide)), hx _ (Nat.lt_trans (ec_ixin HB i c1) (by decide))] at c3
        have a := D.2.1 i c1 c2
        refine ⟨c1, ?_⟩
        rcases c3 with c | c
        · have := c.2; omega
        · have := c.2; omega
      · rintro ⟨c1, c2⟩
        by_cases w : K i = 1
        · refine ⟨c1, w, ?_⟩
          have a := D.2.1 i c1 w
          rw [hx _ (Nat.lt_trans (ec_ixin HA i c1) (by decide)), hx _ (Nat.lt_trans (ec_ixin HB i c1) (by decide))]
          by_cases q : k < dp (ec_ix A i)
          · exact Or.inl ⟨ec_ixin HA i c1, q⟩
          · exact Or.inr ⟨ec_ixin HB i c1, by omega⟩
        · have := D.2.2 i c1 w
          omega
theorem ec_xdepth {post : Int32 → Prop} (HA : ec_Ok A) (HB : ec_Ok B) {dp : Nat → Nat} (D : ec_Dep K (ec_ix A) (ec_ix B) dp) (H : post (nI (ec_mx dp 12))) :
    wpX_depth post (K, V, O, A, B, C, bx) := by
  refine ec_xaw (post := fun r_1 => ∃ n9 : Nat, wX_depth_9 post K V O A B C bx n9 r_1 0 0) fun r hr => ⟨13, ec_xd9 HA HB D H 12 0 r rfl (Nat.zero_le _) ?_⟩
  intro i hi
  rw [hr i hi]
  constructor
  · rintro ⟨c1, c2⟩
    have := D.2.1 i c1 c2
    exact ⟨c1, by omega⟩
  · rintro ⟨c1, c2⟩
    by_cases w : K i = 1
    · exact ⟨c1, w⟩
    · have := D.2.2 i c1 w
      omega
end ECX2
end
section
/-! ===== the reference's walks ===== -/
section ECY
variable {K V O A B C bY on : Nat → Int32} {s : Nat}
theorem ec_yfor {post : Int32 → Prop} (HA : ec_Ok A) (HB : ec_Ok B) {i : Nat} (hi : i < 12) (H : post (ec_g (O i) (V (ec_ix A i)) (V (ec_ix B i)))) :
    wpY_formula post (K, O, A, B, C, V, bY, on) (nI i) := by
  have I := ec_in hi
  unfold wpY_formula
  dsimp only
  rw [ec_cl hi]
  refine ⟨I, HA i hi, nm_r (e' := V (ec_ix A i)) rfl ⟨I, HB i hi, nm_r (e' := V (ec_ix B i)) rfl ⟨I, ?_⟩⟩⟩
  revert H
  generalize V (ec_ix A i) = p
  generalize V (ec_ix B i) = q
  generalize O i = o
  intro H
  unfold ec_g at H
  by_cases e0 : o = 0
  · rw [if_pos e0] at H; exact br_t e0 H
  rw [if_neg e0] at H
  refine br_f e0 ⟨I, ?_⟩
  by_cases e1 : o = 1
  · rw [if_pos e1] at H; exact br_t e1 H
  rw [if_neg e1] at H
  refine br_f e1 ⟨I, ?_⟩
  by_cases e2 : o = 2
  · rw [if_pos e2] at H; exact br_t e2 H
  rw [if_neg e2] at H
  refine br_f e2 ⟨I, ?_⟩
  by_cases e3 : o = 3
  · rw [if_pos e3] at H; exact br_t e3 H
  rw [if_neg e3] at H
  refine br_f e3 ⟨I, ?_⟩
  by_cases e4 : o = 4
  · rw [if_pos e4] at H; exact br_t e4 H
  rw [if_neg e4] at H
  refine br_f e4 ⟨I, ?_⟩
  by_cases e5 : o = 5
  · rw [if_pos e5] at H
    refine br_t e5 ?_
    by_cases hq : q ≤ p
    · rw [if_pos hq] at H; exact br_t hq H
    · rw [if_neg hq] at H; exact br_f hq H
  rw [if_neg e5] at H
  refine br_f e5 ⟨I, ?_⟩
  by_cases e6 : o = 6
  · rw [if_pos e6] at H; exact br_t e6 H
  rw [if_neg e6] at H
  refine br_f e6 ⟨I, ?_⟩
  by_cases e7 : o = 7
  · rw [if_pos e7] at H; exact br_t e7 H
  rw [if_neg e7] at H
  refine br_f e7 ?_
  by_cases hp : p = 0
  · rw [if_pos hp] at H; exact br_t hp H
  · rw [if_neg hp] at H; exact br_f hp H
theorem ec_yst10 {post : SY → Prop} {J2 : Int32 → (Nat → Int32) → (Nat → Int32) → (Nat → Int32) → (Nat → Int32) → (Nat → Int32) → (Nat → Int32) → (Nat → Int32) → (Nat → Int32) → Prop} {x1 : Int32} (HA : ec_Ok A) (HB : ec_Ok B)
    (W : Nat → Int32) (H : J2 (x1 + 1) K O A B C (ec_sw K (ec_ix A) (ec_ix B) O W 12) bY on) : ∀ d i, i + d = 12 → wY_settle_10 post J2 x1 (d + 1) (nI i) K O A B C (ec_sw K (ec_ix A) (ec_ix B) O W i) bY on := by
  intro d
  induction d with
  | zero =>
    intro i hi
    obtain rfl : i = 12 := by omega
    exact br_t ec_12 (nm_e H)
  | succ d ih =>
    intro i hi
    have hi' : i < 12 := by omega
    have I := ec_in hi'
    have n := ih (i + 1) (by omega)
    rw [wY_settle_10]
    dsimp only
    rw [ec_cl hi']
    refine br_f (ec_ge hi') ⟨I, ?_⟩
    by_cases z : K i = 1
    · have es : ec_sw K (ec_ix A) (ec_ix B) O W (i + 1) = upd (ec_sw K (ec_ix A) (ec_ix B) O W i) i (ec_g (O i) (ec_sw K (ec_ix A) (ec_ix B) O W i (ec_ix A i)) (ec_sw K (ec_ix A) (ec_ix B) O W i (ec_ix B i))) := if_pos z
      rw [es] at n
      exact br_t z (ec_yfor HA HB hi' ⟨I, nm_e (nm_r (nI_1 i) n)⟩)
    · have es : ec_sw K (ec_ix A) (ec_ix B) O W (i + 1) = ec_sw K (ec_ix A) (ec_ix B) O W i := if_neg z
      rw [es] at n
      exact br_f z (nm_r (nI_1 i) n)
theorem ec_yst2 {post : SY → Prop} (HA : ec_Ok A) (HB : ec_Ok B) (W : Nat → Int32) (H : post (K, O, A, B, C, ec_se K (ec_ix A) (ec_ix B) O W 12, bY, on)) :
    ∀ d k, k + d = 12 → wY_settle_2 post (d + 1) (nI k) K O A B C (ec_se K (ec_ix A) (ec_ix B) O W k) bY on := by
  intro d
  induction d with
  | zero =>
    intro i hi
    obtain rfl : i = 12 := by omega
    exact br_t ec_12 H
  | succ d ih =>
    intro k hk
    have n := ih (k + 1) (by omega)
    rw [← nI_1] at n
    exact br_f (ec_ge (by omega)) ⟨13, ec_yst10 HA HB (ec_se K (ec_ix A) (ec_ix B) O W k) n 12 0 rfl⟩
theorem ec_ysettle {post : SY → Prop} (HA : ec_Ok A) (HB : ec_Ok B) {W : Nat → Int32} (H : post (K, O, A, B, C, ec_se K (ec_ix A) (ec_ix B) O W 12, bY, on)) :
    wpY_settle post (K, O, A, B, C, W, bY, on) := ⟨13, ec_yst2 HA HB W H 12 0 rfl⟩
/-! findHanging -/
def ec_Snd (K : Nat → Int32) (f h : Nat → Nat) (on : Nat → Int32) : Prop := ∀ w, w < 12 → ∀ t, t < 12 → bt (on w) t = true → ∃ k, ec_F K f h t k w
def ec_Cm (K : Nat → Int32) (f h : Nat → Nat) (on : Nat → Int32) (j w : Nat) : Prop := ∀ t, t < 12 → ec_F K f h t j w → bt (on w) t = true
theorem ec_or_le {on : Nat → Int32} {i j : Nat} {w t : Nat} (z : bt (on w) t = true) : bt (upd on i (on i ||| on j) w) t = true := by
  by_cases e : w = i
  · rw [e, pk_us, b_or]
    rw [e] at z
    rw [z]
    rfl
  · rw [pk_un e]; exact z
theorem ec_y69 {post : SY → Prop} {J53 J61 : Int32 → (Nat → Int32) → (Nat → Int32) → (Nat → Int32) → (Nat → Int32) → (Nat → Int32) → (Nat → Int32) → (Nat → Int32) → (Nat → Int32) → Prop} {x1 : Int32} {k i : Nat} (hi : i < 12)
    (H : ∀ on', ec_Snd K (ec_ix A) (ec_ix B) on' → (∀ w, w < 12 → ec_Cm K (ec_ix A) (ec_ix B) on' (k + 1) w) → (∀ w, w < i + 1 → ec_Cm K (ec_ix A) (ec_ix B) on' (k + 2) w) → J61 (nI (i + 1)) K O A B C V bY on')
    (HA : ec_Ok A) (HB : ec_Ok B) :
    ∀ d t on, t + d = 12 → ec_Snd K (ec_ix A) (ec_ix B) on → (∀ w, w < 12 → ec_Cm K (ec_ix A) (ec_ix B) on (k + 1) w) → (∀ w, w < i → ec_Cm K (ec_ix A) (ec_ix B) on (k + 2) w) →
      (∀ t', t' < t → K i = 1 → (ec_ix A i = t' ∨ ec_ix B i = t') → ∀ v, v < 12 → ec_F K (ec_ix A) (ec_ix B) v (k + 1) t' → bt (on i) v = true) →
      wY_findHanging_69 post J53 J61 x1 (nI i) (d + 1) (nI t) K O A B C V bY on := by
  intro d
  induction d with
  | zero =>
    intro t on ht S c1 c2 c3
    obtain rfl : t = 12 := by omega
    refine br_t ec_12 (nm_r (nI_1 i) (H on S c1 ?_))
    intro w hw
    by_cases e : w = i
    · subst e
      intro v hv z
      have one : ∀ t', (ec_ix A w = t' ∨ ec_ix B w = t') → t' < 12 → (t' = v ∨ ec_F K (ec_ix A) (ec_ix B) v (k + 1) t') → bt (on w) v = true := by
        intro t' ht' ht2 y
        rcases y with y | y
        · apply c1 w hi v hv
          apply ec_F_le (k := 1) (by omega)
          refine ⟨z.1, ?_⟩
          rcases ht' with q | q
          · exact Or.inl (Or.inl (q.trans y))
          · exact Or.inr (Or.inl (q.trans y))
        · exact c3 t' ht2 z.1 ht' v hv y
      rcases z.2 with y | y
      · exact one _ (Or.inl rfl) (ec_ixin HA w hi) y
      · exact one _ (Or.inr rfl) (ec_ixin HB w hi) y
    · exact c2 w (by omega)
  | succ d ih =>
    intro t on ht S c1 c2 c3
    have ht' : t < 12 := by omega
    have I := ec_in hi
    have It := ec_in ht'
    rw [wY_findHanging_69]
    dsimp only
    rw [ec_cl hi, ec_cl ht']
    refine br_f (ec_ge ht') ⟨I, ?_⟩
    by_cases z : bt (on i) t = true
    · refine br_t ((ec_tst ht').mpr z) ⟨I, It, I, nm_e (nm_r (nI_1 t) (ih (t + 1) _ (by omega) ?_ ?_ ?_ ?_))⟩
      · intro w hw v hv y
        by_cases e : w = i
        · subst e
          rw [pk_us, b_or, Bool.or_eq_true] at y
          rcases y with y | y
          · exact S w hw v hv y
          · obtain ⟨k1, h1⟩ := S w hw t ht' z
            obtain ⟨k2, h2⟩ := S t ht' v hv y
            exact ⟨k1 + k2, ec_F_trans k1 k2 w h1 h2⟩
        · rw [pk_un e] at y
          exact S w hw v hv y
      · exact fun w hw v hv y => ec_or_le (c1 w hw v hv y)
      · exact fun w hw v hv y => ec_or_le (c2 w hw v hv y)
      · intro t' hl hk he v hv y
        by_cases e : t' = t
        · subst e
          rw [pk_us, b_or, c1 t' ht' v hv y, Bool.or_true]
        · exact ec_or_le (c3 t' (by omega) hk he v hv y)
    · refine br_f (fun y => z ((ec_tst ht').mp y)) (nm_r (nI_1 t) (ih (t + 1) _ (by omega) S c1 c2 ?_))
      intro t' hl hk he v hv y
      by_cases e : t' = t
      · subst e
        exfalso
        apply z
        apply c1 i hi t' ht'
        apply ec_F_le (k := 1) (by omega)
        refine ⟨hk, ?_⟩
        rcases he with q | q
        · exact Or.inl (Or.inl q)
        · exact Or.inr (Or.inl q)
      · exact c3 t' (by omega) hk he v hv y
theorem ec_y61 {post : SY → Prop} {J53 : Int32 → (Nat → Int32) → (Nat → Int32) → (Nat → Int32) → (Nat → Int32) → (Nat → Int32) → (Nat → Int32) → (Nat → Int32) → (Nat → Int32) → Prop} {k : Nat}
    (H : ∀ on', ec_Snd K (ec_ix A) (ec_ix B) on' → (∀ w, w < 12 → ec_Cm K (ec_ix A) (ec_ix B) on' (k + 2) w) → J53 (nI (k + 1)) K O A B C V bY on')
    (HA : ec_Ok A) (HB : ec_Ok B) :
    ∀ d i on, i + d = 12 → ec_Snd K (ec_ix A) (ec_ix B) on → (∀ w, w < 12 → ec_Cm K (ec_ix A) (ec_ix B) on (k + 1) w) → (∀ w, w < i → ec_Cm K (ec_ix A) (ec_ix B) on (k + 2) w) →
      wY_findHanging_61 post J53 (nI k) (d + 1) (nI i) K O A B C V bY on := by
  intro d
  induction d with
  | zero =>
    intro t on ht S c1 c2
    obtain rfl : t = 12 := by omega
    exact br_t ec_12 (nm_r (nI_1 k) (H on S c2))
  | succ d ih =>
    intro i on hi S c1 c2
    have hi' : i < 12 := by omega
    refine br_f (ec_ge hi') ⟨13, ec_y69 hi' (fun on' S' d1 d2 => ih (i + 1) on' (by omega) S' d1 d2) HA HB 12 0 on rfl S c1 c2 ?_⟩
    intro t' hl
    omega
theorem ec_y53 {post : SY → Prop}
    (H : ∀ on', ec_Snd K (ec_ix A) (ec_ix B) on' → (∀ w, w < 12 → ec_Cm K (ec_ix A) (ec_ix B) on' 13 w) → post (K, O, A, B, C, V, bY, on'))
    (HA : ec_Ok A) (HB : ec_Ok B) :
    ∀ d k on, k + d = 12 → ec_Snd K (ec_ix A) (ec_ix B) on → (∀ w, w < 12 → ec_Cm K (ec_ix A) (ec_ix B) on (k + 1) w) →
      wY_findHanging_53 post (d + 1) (nI k) K O A B C V bY on := by
  intro d
  induction d with
  | zero =>
    intro t on ht S c1
    obtain rfl : t = 12 := by omega
    exact br_t ec_12 (H on S c1)
  | succ d ih =>
    intro k on hk S c1
    refine br_f (ec_ge (by omega)) ⟨13, ec_y61 (fun on' S' d1 => ih (k + 1) on' (by omega) S' d1) HA HB 12 0 on rfl S c1 ?_⟩
    intro w hl
    omega
theorem ec_y2 {post : SY → Prop}
    (H : ∀ on', ec_Snd K (ec_ix A) (ec_ix B) on' → (∀ w, w < 12 → ec_Cm K (ec_ix A) (ec_ix B) on' 13 w) → post (K, O, A, B, C, V, bY, on'))
    (HA : ec_Ok A) (HB : ec_Ok B) :
    ∀ d i on, i + d = 12 → (∀ w, w < i → ∀ t, t < 12 → (bt (on w) t = true ↔ ec_F K (ec_ix A) (ec_ix B) t 1 w)) →
      wY_findHanging_2 post (d + 1) (nI i) K O A B C V bY on := by
  intro d
  induction d with
  | zero =>
    intro i on hi c
    obtain rfl : i = 12 := by omega
    refine br_t ec_12 ⟨13, ec_y53 H HA HB 12 0 on rfl ?_ ?_⟩
    · exact fun w hw t ht y => ⟨1, (c w hw t ht).mp y⟩
    · exact fun w hw t ht y => (c w hw t ht).mpr y
  | succ d ih =>
    intro i on hi c
    have hi' : i < 12 := by omega
    have I := ec_in hi'
    have ea := ec_ixe HA hi'
    have eb := ec_ixe HB hi'
    rw [wY_findHanging_2]
    dsimp only
    rw [ec_cl hi']
    refine br_f (ec_ge hi') ⟨I, ?_⟩
    by_cases z : K i = 1
    · refine br_t z ⟨I, I, I, nm_e (nm_r (nI_1 i) (ih (i + 1) _ (by omega) ?_))⟩
      intro w hw t ht
      by_cases e : w = i
      · subst e
        rw [pk_us, ea.2, eb.2, b_or, ec_one _ ea.1 t (by omega), ec_one _ eb.1 t (by omega), Bool.or_eq_true, decide_eq_true_eq, decide_eq_true_eq]
        constructor
        · rintro (y | y)
          · exact ⟨z, Or.inl (Or.inl y.symm)⟩
          · exact ⟨z, Or.inr (Or.inl y.symm)⟩
        · rintro ⟨_, (y | y) | (y | y)⟩
          · exact Or.inl y.symm
          · exact y.elim
          · exact Or.inr y.symm
          · exact y.elim
      · rw [pk_un e]
        exact c w (by omega) t ht
    · refine br_f z ⟨I, nm_e (nm_r (nI_1 i) (ih (i + 1) _ (by omega) ?_))⟩
      intro w hw t ht
      by_cases e : w = i
      · subst e
        rw [pk_us, b_0]
        constructor
        · intro y; exact absurd y (by decide)
        · intro y; exact absurd y.1 z
      · rw [pk_un e]
        exact c w (by omega) t ht
theorem ec_yfh {post : SY → Prop} (HA : ec_Ok A) (HB : ec_Ok B)
    (H : ∀ on', ec_Snd K (ec_ix A) (ec_ix B) on' → (∀ w, w < 12 → ec_Cm K (ec_ix A) (ec_ix B) on' 13 w) → post (K, O, A, B, C, V, bY, on')) :
    wpY_findHanging post (K, O, A, B, C, V, bY, on) := ⟨13, ec_y2 H HA HB 12 0 on rfl (fun w hw => by omega)⟩
end ECY
end
section
/-! ===== the reference's walks: circle, change, pulses, hanging, depth ===== -/
section ECY2
variable {K V O A B C bY on : Nat → Int32} {s : Nat}
theorem ec_yhc6 {post : Int32 → SY → Prop} (H1 : (∃ w, w < 12 ∧ bt (on w) w = true) → post 1 (K, O, A, B, C, V, bY, on))
    (H0 : (∀ w, w < 12 → ¬ bt (on w) w = true) → post 0 (K, O, A, B, C, V, bY, on)) :
    ∀ d i, i + d = 12 → (∀ w, w < i → ¬ bt (on w) w = true) → wY_hasCircle_6 post K O A B C V bY on (d + 1) (nI i) := by
  intro d
  induction d with
  | zero =>
    intro i hi c
    obtain rfl : i = 12 := by omega
    exact br_t ec_12 (H0 c)
  | succ d ih =>
    intro i hi c
    have hi' : i < 12 := by omega
    rw [wY_hasCircle_6]
    dsimp only
    rw [ec_cl hi']
    refine br_f (ec_ge hi') ⟨ec_in hi', ?_⟩
    by_cases z : bt (on i) i = true
    · exact br_t ((ec_tst hi').mpr z) (H1 ⟨i, hi', z⟩)
    · refine br_f (fun y => z ((ec_tst hi').mp y)) (nm_r (nI_1 i) (ih (i + 1) (by omega) ?_))
      intro w hw
      by_cases e : w = i
      · rw [e]; exact z
      · exact c w (by omega)
theorem ec_yhc {post : Int32 → SY → Prop} (HA : ec_Ok A) (HB : ec_Ok B)
    (H : ∀ on', (∃ w k, w < 12 ∧ ec_F K (ec_ix A) (ec_ix B) w k w) → post 1 (K, O, A, B, C, V, bY, on'))
    (H0 : ∀ on', (∀ w, w < 12 → ¬ ec_F K (ec_ix A) (ec_ix B) w 13 w) → post 0 (K, O, A, B, C, V, bY, on')) :
    wpY_hasCircle post (K, O, A, B, C, V, bY, on) := by
  refine ec_yfh (post := fun u => match u with | (k, o, a, b, c, v, y, n) => (∃ n6 : Nat, wY_hasCircle_6 post k o a b c v y n n6 0)) HA HB fun on' S c => ?_
  refine ⟨13, ec_yhc6 ?_ ?_ 12 0 rfl (fun w hw => by omega)⟩
  · rintro ⟨w, hw, y⟩
    obtain ⟨k, hk⟩ := S w hw w hw y
    exact H on' ⟨w, k, hw, hk⟩
  · exact fun y => H0 on' (fun w hw z => y w hw (c w hw w hw z))
theorem ec_ygive {post : SY → Prop} (hs : s < 12) {k o a b : Int32} (H : post (upd K s k, upd O s o, upd A s a, upd B s b, C, V, bY, on)) :
    wpY_give post (K, O, A, B, C, V, bY, on) (nI s) k o a b := by
  have I := ec_in hs
  unfold wpY_give
  dsimp only
  rw [ec_cl hs]
  exact ⟨I, nm_e ⟨I, nm_e ⟨I, nm_e ⟨I, nm_e H⟩⟩⟩⟩
/-! change -/
theorem ec_y89e {post : Int32 → SY → Prop} (HA : ec_Ok A) (HB : ec_Ok B) (hs : s < 12) {x x3 c : Int32} {W : Nat → Int32} {n : Nat}
    (H : post c (K, O, A, B, C, ec_se K (ec_ix A) (ec_ix B) O (upd W s x) 12, bY, on)) : wY_change_89 post (nI s) x x3 (n + 1) c (nI 12) K O A B C W bY on := by
  rw [wY_change_89]
  dsimp only
  rw [ec_cl hs]
  exact br_t ec_12 ⟨ec_in hs, nm_e (ec_ysettle HA HB H)⟩
theorem ec_y89n {post : Int32 → SY → Prop} (HA : ec_Ok A) (HB : ec_Ok B) (hs : s < 12) {x c : Int32} {W : Nat → Int32}
    (H : post c (K, O, A, B, C, ec_se K (ec_ix A) (ec_ix B) O (upd W s x) 12, bY, on)) :
    ∀ d i, i + d = 12 → wY_change_89 post (nI s) x 0 (d + 1) c (nI i) K O A B C W bY on := by
  intro d
  induction d with
  | zero =>
    intro i hi
    obtain rfl : i = 12 := by omega
    exact ec_y89e HA HB hs H
  | succ d ih =>
    intro i hi
    exact br_f (ec_ge (by omega)) (br_t rfl (nm_r (nI_1 i) (ih (i + 1) (by omega))))
theorem ec_y89y {post : Int32 → SY → Prop} (HA : ec_Ok A) (HB : ec_Ok B) (hs : s < 12) {x : Int32}
    (ho : ∀ j, j < 12 → on j = ec_g (O j) (V (ec_ix A j)) (V (ec_ix B j)))
    (H : post (nI (ec_cnt (fun r => decide (K r = 2 ∧ C r = nI s) && !decide (V r = ec_g (O r) (V (ec_ix A r)) (V (ec_ix B r)))) 12)) (K, O, A, B, C, ec_se K (ec_ix A) (ec_ix B) O (upd (ec_ck K (ec_ix A) (ec_ix B) O C (nI s) V 12) s x) 12, bY, on)) :
    ∀ d i, i + d = 12 → wY_change_89 post (nI s) x 1 (d + 1) (nI (ec_cnt (fun r => decide (K r = 2 ∧ C r = nI s) && !decide (V r = ec_g (O r) (V (ec_ix A r)) (V (ec_ix B r)))) i)) (nI i) K O A B C (ec_ck K (ec_ix A) (ec_ix B) O C (nI s) V i) bY on := by
  intro d
  induction d with
  | zero =>
    intro i hi
    obtain rfl : i = 12 := by omega
    exact ec_y89e HA HB hs H
  | succ d ih =>
    intro i hi
    have hi' : i < 12 := by omega
    have I := ec_in hi'
    have n := ih (i + 1) (by omega)
    have ev : ec_ck K (ec_ix A) (ec_ix B) O C (nI s) V i i = V i := ec_ck_hi i i (Nat.le_refl i)
    rw [wY_change_89]
    dsimp only
    unfold wY_change_142
    rw [ec_cl hi', ev, ho i hi']
    refine br_f (ec_ge hi') (br_f (by decide) ⟨I, ?_⟩)
    by_cases z : K i = 2
    · by_cases y : C i = nI s
      · have es : ec_ck K (ec_ix A) (ec_ix B) O C (nI s) V (i + 1) = upd (ec_ck K (ec_ix A) (ec_ix B) O C (nI s) V i) i (ec_g (O i) (V (ec_ix A i)) (V (ec_ix B i))) := if_pos ⟨z, y⟩
        rw [es] at n
        refine br_t z ⟨I, br_t y ⟨I, I, ?_⟩⟩
        by_cases q : V i = ec_g (O i) (V (ec_ix A i)) (V (ec_ix B i))
        · rw [ec_cnt_f (by simp [← q])] at n
          exact br_t q ⟨I, I, nm_e (nm_r (nI_1 i) n)⟩
        · rw [ec_cnt_t (by simp [q, z, y])] at n
          exact br_f q (nm_r (nI_1 _) ⟨I, I, nm_e (nm_r (nI_1 i) n)⟩)
      · have es : ec_ck K (ec_ix A) (ec_ix B) O C (nI s) V (i + 1) = ec_ck K (ec_ix A) (ec_ix B) O C (nI s) V i := if_neg (fun w => y w.2)
        rw [es, ec_cnt_f (by simp [y])] at n
        exact br_t z ⟨I, br_f y (nm_r (nI_1 i) n)⟩
    · have es : ec_ck K (ec_ix A) (ec_ix B) O C (nI s) V (i + 1) = ec_ck K (ec_ix A) (ec_ix B) O C (nI s) V i := if_neg (fun w => z w.1)
      rw [es, ec_cnt_f (by simp [z])] at n
      exact br_f z (nm_r (nI_1 i) n)
theorem ec_y60 {post : Int32 → SY → Prop} (HA : ec_Ok A) (HB : ec_Ok B) {x x3 x4 : Int32}
    (H : ∀ on', (∀ j, j < 12 → on' j = ec_g (O j) (V (ec_ix A j)) (V (ec_ix B j))) → ∃ n89 : Nat, wY_change_89 post (nI s) x x3 n89 x4 0 K O A B C V bY on') :
    ∀ d i on, i + d = 12 → (∀ j, j < i → on j = ec_g (O j) (V (ec_ix A j)) (V (ec_ix B j))) → wY_change_60 post (nI s) x x3 x4 (d + 1) (nI i) K O A B C V bY on := by
  intro d
  induction d with
  | zero =>
    intro i on hi c
    obtain rfl : i = 12 := by omega
    exact br_t ec_12 (H on c)
  | succ d ih =>
    intro i on hi c
    have hi' : i < 12 := by omega
    have n := ih (i + 1) (upd on i (ec_g (O i) (V (ec_ix A i)) (V (ec_ix B i)))) (by omega) (fun j hj => by
      by_cases e : j = i
      · rw [e]; exact pk_us
      · rw [pk_un e]; exact c j (by omega))
    rw [wY_change_60]
    dsimp only
    rw [ec_cl hi']
    exact br_f (ec_ge hi') (ec_yfor HA HB hi' ⟨ec_in hi', nm_e (nm_r (nI_1 i) n)⟩)
theorem ec_y30 {post : Int32 → SY → Prop} {x x3 x4 : Int32}
    (H : ∀ bY', (∀ j, j < 12 → bY' j = V j) → ∃ n60 : Nat, wY_change_60 post (nI s) x x3 x4 n60 0 K O A B C V bY' on) :
    ∀ d i bY, i + d = 12 → (∀ j, j < i → bY j = V j) → wY_change_30 post (nI s) x x3 x4 (d + 1) (nI i) K O A B C V bY on := by
  intro d
  induction d with
  | zero =>
    intro i bY hi c
    obtain rfl : i = 12 := by omega
    exact br_t ec_12 (H bY c)
  | succ d ih =>
    intro i bY hi c
    have hi' : i < 12 := by omega
    have I := ec_in hi'
    have n := ih (i + 1) (upd bY i (V i)) (by omega) (fun j hj => by
      by_cases e : j = i
      · rw [e]; exact pk_us
      · rw [pk_un e]; exact c j (by omega))
    rw [wY_change_30]
    dsimp only
    rw [ec_cl hi']
    exact br_f (ec_ge hi') ⟨I, I, nm_e (nm_r (nI_1 i) n)⟩
theorem ec_ych {post : Int32 → SY → Prop} (HA : ec_Ok A) (HB : ec_Ok B) (hs : s < 12) {x : Int32} (hv : ∃ n, n < 16 ∧ V s = nI n) (hx : ∃ n, n < 16 ∧ x = nI n)
    (H : ∀ bY' on', (∀ j, j < 12 → bY' j = V j) → post (nI (ec_rc K (ec_ix A) (ec_ix B) O C s x V)) (K, O, A, B, C, ec_ch K (ec_ix A) (ec_ix B) O C s x V, bY', on')) :
    wpY_change post (K, O, A, B, C, V, bY, on) (nI s) x := by
  obtain ⟨m, hm, ev⟩ := hv
  obtain ⟨m', hm', rfl⟩ := hx
  have pv := (ec_par m hm).1
  have px := (ec_par m' hm').2
  rw [← ev] at pv
  have N : ec_up (V s) (nI m') = false → ∃ n30 : Nat, wY_change_30 post (nI s) (nI m') 0 0 n30 0 K O A B C V bY on := by
    intro u
    refine ⟨13, ec_y30 (fun b1 hb1 => ⟨13, ec_y60 HA HB (fun o1 ho1 => ⟨13, ec_y89n HA HB hs ?_ 12 0 rfl⟩) 12 0 on rfl (fun j hj => by omega)⟩) 12 0 bY rfl (fun j hj => by omega)⟩
    have Hb := H b1 o1 hb1
    have e : ec_rc K (ec_ix A) (ec_ix B) O C s (nI m') V = 0 := by
      unfold ec_rc
      rw [u]
      exact (ec_cnt_eq (q := fun _ => false) 12 (fun t _ => rfl)).trans (by decide)
    unfold ec_ch ec_cv at Hb
    rw [e, if_neg (by rw [u]; decide)] at Hb
    exact Hb
  have Y : ec_up (V s) (nI m') = true → ∃ n30 : Nat, wY_change_30 post (nI s) (nI m') 1 0 n30 0 K O A B C V bY on := by
    intro u
    refine ⟨13, ec_y30 (fun b1 hb1 => ⟨13, ec_y60 HA HB (fun o1 ho1 => ⟨13, ec_y89y HA HB hs ho1 ?_ 12 0 rfl⟩) 12 0 on rfl (fun j hj => by omega)⟩) 12 0 bY rfl (fun j hj => by omega)⟩
    have Hb := H b1 o1 hb1
    unfold ec_ch ec_cv ec_rc at Hb
    rw [if_pos u] at Hb
    simp only [u, Bool.true_and] at Hb
    exact Hb
  unfold wpY_change
  dsimp only
  rw [ec_cl hs]
  refine ⟨ec_in hs, by decide, ?_⟩
  by_cases z : V s &&& 1 = 0
  · refine br_t (pv.mpr z) ⟨by decide, ?_⟩
    by_cases y : nI m' &&& 1 = 1
    · exact br_t (px.mpr y) (Y (by unfold ec_up; simp [z, y]))
    · exact br_f (fun q => y (px.mp q)) (N (by unfold ec_up; simp [y]))
  · exact br_f (fun q => z (pv.mp q)) (N (by unfold ec_up; simp [z]))
theorem ec_yset26 {post : Int32 → SY → Prop} (H : post (nI (ec_cnt (fun i => !decide (V i = bY i)) 12)) (K, O, A, B, C, V, bY, on)) :
    ∀ d i, i + d = 12 → wY_set_26 post K O A B C V bY on (d + 1) (nI (ec_cnt (fun i => !decide (V i = bY i)) i)) (nI i) := by
  intro d
  induction d with
  | zero =>
    intro i hi
    obtain rfl : i = 12 := by omega
    exact br_t ec_12 H
  | succ d ih =>
    intro i hi
    have hi' : i < 12 := by omega
    have I := ec_in hi'
    have n := ih (i + 1) (by omega)
    rw [wY_set_26]
    dsimp only
    rw [ec_cl hi']
    refine br_f (ec_ge hi') ⟨I, I, ?_⟩
    by_cases z : V i = bY i
    · rw [ec_cnt_f (by simp [z])] at n
      exact br_t z (nm_r (nI_1 i) n)
    · rw [ec_cnt_t (by simp [z])] at n
      exact br_f z (nm_r (nI_1 _) (nm_r (nI_1 i) n))
theorem ec_pv15 {f h : Nat → Nat} (hf : ec_In f) (hh : ec_In h) (H : ec_V15 V) {x y : Int32} (hx : ∃ n, n < 16 ∧ x = nI n) (hy : ∃ n, n < 16 ∧ y = nI n) : ∀ k, ec_V15 (ec_pv K f h O C s x y V k) := by
  intro k
  induction k with
  | zero => exact H
  | succ k ih => exact ec_ch15 hf hh (ec_ch15 hf hh ih hx) hy
theorem ec_ypu {post : Int32 → SY → Prop} (HA : ec_Ok A) (HB : ec_Ok B) (hs : s < 12) {x y : Int32} {T : Nat} (hT : T ≤ 16) (H15 : ec_V15 V) (hx : ∃ n, n < 16 ∧ x = nI n) (hy : ∃ n, n < 16 ∧ y = nI n)
    (H : ∀ bY' on', post (nI (ec_pc K (ec_ix A) (ec_ix B) O C s x y V T)) (K, O, A, B, C, ec_pv K (ec_ix A) (ec_ix B) O C s x y V T, bY', on')) :
    ∀ d k bY on, k + d = T → wY_pulse_52 post (nI s) x (nI T) y (d + 1) (nI (ec_pc K (ec_ix A) (ec_ix B) O C s x y V k)) (nI k) K O A B C (ec_pv K (ec_ix A) (ec_ix B) O C s x y V k) bY on := by
  intro d
  induction d with
  | zero =>
    intro k bY on hk
    obtain rfl : k = T := by omega
    exact br_t (nI_le (Nat.le_refl k) (by omega)) (H bY on)
  | succ d ih =>
    intro k bY on hk
    have h1 : ¬ nI T ≤ nI k := nI_ge (by omega) (by omega)
    have hf := ec_ixin HA
    have hh := ec_ixin HB
    have r1 : ec_V15 (ec_pv K (ec_ix A) (ec_ix B) O C s x y V k) := ec_pv15 hf hh H15 hx hy k
    have r2 : ec_V15 (ec_ch K (ec_ix A) (ec_ix B) O C s x (ec_pv K (ec_ix A) (ec_ix B) O C s x y V k)) := ec_ch15 hf hh r1 hx
    refine br_f h1 (ec_ych HA HB hs (r1 s hs) hx fun b1 o1 _ => nm_r (nI_add _ _) (ec_ych HA HB hs (r2 s hs) hy fun b2 o2 _ => nm_r (nI_add _ _) (nm_r (nI_1 k) ?_)))
    exact ih (k + 1) b2 o2 (by omega)
/-! hanging -/
theorem ec_yh18 {post : Int32 → SY → Prop} (hs : s < 12)
    (H : ∀ r, (∀ i, i < 32 → (bt r i = true ↔ (i < 12 ∧ bt (on i) s = true))) → post r (K, O, A, B, C, V, bY, on)) :
    ∀ d j x2, j + d = 12 → (∀ i, i < 32 → (bt x2 i = true ↔ (i < j ∧ bt (on i) s = true))) → wY_hanging_18 post (nI s) K O A B C V bY on (d + 1) x2 (nI j) := by
  intro d
  induction d with
  | zero =>
    intro j x2 hj hx
    obtain rfl : j = 12 := by omega
    exact br_t ec_12 (H x2 hx)
  | succ d ih =>
    intro j x2 hj hx
    have hj' : j < 12 := by omega
    rw [wY_hanging_18]
    dsimp only
    rw [ec_cl hj']
    refine br_f (ec_ge hj') ⟨ec_in hj', ?_⟩
    by_cases z : bt (on j) s = true
    · refine br_t ((ec_tst hs).mpr z) (nm_e (nm_r (nI_1 j) (ih (j + 1) _ (by omega) ?_)))
      intro i hi
      rw [b_or, ec_one j hj' i hi, Bool.or_eq_true, hx i hi, decide_eq_true_eq]
      constructor
      · rintro (c | rfl)
        · exact ⟨by omega, c.2⟩
        · exact ⟨by omega, z⟩
      · rintro ⟨c1, c2⟩
        by_cases e : i = j
        · exact Or.inr e
        · exact Or.inl ⟨by omega, c2⟩
    · refine br_f (fun y => z ((ec_tst hs).mp y)) (nm_r (nI_1 j) (ih (j + 1) _ (by omega) ?_))
      intro i hi
      rw [hx i hi]
      constructor
      · rintro ⟨c1, c2⟩
        exact ⟨by omega, c2⟩
      · rintro ⟨c1, c2⟩
        by_cases e : i = j
        · subst e; exact absurd c2 z
        · exact ⟨by omega, c2⟩
/-! depth -/
theorem ec_y111 {post : Int32 → SY → Prop} {J25 J33 : Int32 → Int32 → (Nat → Int32) → (Nat → Int32) → (Nat → Int32) → (Nat → Int32) → (Nat → Int32) → (Nat → Int32) → (Nat → Int32) → (Nat → Int32) → Prop} {x2 : Int32} {m z i : Nat} (hi : i < 12) (hm : m ≤ 12) (hz : z ≤ 12)
    (ez : on i = nI z) (H : J33 (nI (max m z)) (nI (i + 1)) K O A B C V bY on) : wY_depth_111 post J25 J33 (nI m) x2 (nI i) K O A B C V bY on := by
  have I := ec_in hi
  unfold wY_depth_111
  rw [ec_cl hi, ez]
  refine ⟨I, ?_⟩
  by_cases c : z ≤ m
  · rw [show max m z = m by omega] at H
    exact br_t ((nI_leI (by omega) (by omega)).mpr c) (nm_r (nI_1 i) H)
  · rw [show max m z = z by omega] at H
    exact br_f (fun y => c ((nI_leI (by omega) (by omega)).mp y)) ⟨I, nm_e (nm_r (nI_1 i) H)⟩
theorem ec_y33 {post : Int32 → SY → Prop} {J25 : Int32 → Int32 → (Nat → Int32) → (Nat → Int32) → (Nat → Int32) → (Nat → Int32) → (Nat → Int32) → (Nat → Int32) → (Nat → Int32) → (Nat → Int32) → Prop} (HA : ec_Ok A) (HB : ec_Ok B)
    {rk dp : Nat → Nat} (R : ec_Rk K (ec_ix A) (ec_ix B) rk) (D : ec_Dep K (ec_ix A) (ec_ix B) dp) {k : Nat}
    (H : ∀ q m on', (∀ j, j < 12 → on' j = nI (q j)) → ec_Q K rk dp q m (k + 1) 0 → J25 (nI m) (nI (k + 1)) K O A B C V bY on') :
    ∀ d i q m on, i + d = 12 → (∀ j, j < 12 → on j = nI (q j)) → ec_Q K rk dp q m k i → wY_depth_33 post J25 (nI k) (d + 1) (nI m) (nI i) K O A B C V bY on := by
  intro d
  induction d with
  | zero =>
    intro i q m on hi ho Q
    obtain rfl : i = 12 := by omega
    exact br_t ec_12 (nm_r (nI_1 k) (H q m on ho (ec_Q_r Q)))
  | succ d ih =>
    intro i q m on hi ho Q
    have hi' : i < 12 := by omega
    have I := ec_in hi'
    have fa := ec_ixin HA i hi'
    have fb := ec_ixin HB i hi'
    have e12 : ec_mx dp 12 ≤ 12 := ec_mx_le dp 12 D.1
    have hm : m ≤ 12 := Nat.le_trans Q.2 e12
    have qa : q (ec_ix A i) ≤ 12 := Nat.le_trans (Q.1 _ fa).1 (D.1 _ fa)
    have qb : q (ec_ix B i) ≤ 12 := Nat.le_trans (Q.1 _ fb).1 (D.1 _ fb)
    have oa : on (A i).toNatClampNeg = nI (q (ec_ix A i)) := ho _ fa
    have ob : on (B i).toNatClampNeg = nI (q (ec_ix B i)) := ho _ fb
    have key : wY_depth_89 post J25 (wY_depth_33 post J25 (nI k) (d + 1)) (nI m) (nI k) (nI i) (nI (max (q (ec_ix A i)) (q (ec_ix B i)))) K O A B C V bY on := by
      unfold wY_depth_89
      rw [ec_cl hi', nI_1]
      refine ⟨I, ?_⟩
      by_cases z : K i = 1
      · have Q' := ec_Q_y (ec_ixin HA) (ec_ixin HB) R D hi' z Q rfl rfl
        have le1 : max (q (ec_ix A i)) (q (ec_ix B i)) + 1 ≤ 12 := by
          have a := (Q'.1 i hi').1
          have b := D.1 i hi'
          dsimp only at a
          rw [if_pos rfl] at a
          omega
        refine br_t z ⟨I, nm_e (ec_y111 hi' hm le1 pk_us (ih (i + 1) _ _ _ (by omega) ?_ Q'))⟩
        intro j hj
        by_cases e : j = i
        · rw [e, pk_us, if_pos rfl]
        · rw [pk_un e, if_neg e]; exact ho j hj
      · have qi : q i ≤ m := (Q.1 i hi').2.1
        have n := ih (i + 1) q m on (by omega) ho (ec_Q_n z Q)
        refine br_f z (ec_y111 hi' hm (by omega) (ho i hi') ?_)
        rw [show max m (q i) = m by omega]
        exact n
    rw [wY_depth_33]
    dsimp only
    rw [ec_cl hi', oa, ob]
    refine br_f (ec_ge hi') ⟨I, HA i hi', I, HB i hi', ?_⟩
    by_cases c : q (ec_ix A i) ≤ q (ec_ix B i)
    · rw [show max (q (ec_ix A i)) (q (ec_ix B i)) = q (ec_ix B i) by omega] at key
      exact br_t ((nI_leI (by omega) (by omega)).mpr c) ⟨I, HB i hi', key⟩
    · rw [show max (q (ec_ix A i)) (q (ec_ix B i)) = q (ec_ix A i) by omega] at key
      exact br_f (fun y => c ((nI_leI (by omega) (by omega)).mp y)) ⟨I, HA i hi', key⟩
theorem ec_y25 {post : Int32 → SY → Prop} (HA : ec_Ok A) (HB : ec_Ok B)
    {rk dp : Nat → Nat} (R : ec_Rk K (ec_ix A) (ec_ix B) rk) (hr : ∀ i, i < 12 → rk i < 12) (D : ec_Dep K (ec_ix A) (ec_ix B) dp)
    (H : ∀ on', post (nI (ec_mx dp 12)) (K, O, A, B, C, V, bY, on')) :
    ∀ d k q m on, k + d = 12 → (∀ j, j < 12 → on j = nI (q j)) → ec_Q K rk dp q m k 0 → wY_depth_25 post (d + 1) (nI m) (nI k) K O A B C V bY on := by
  intro d
  induction d with
  | zero =>
    intro k q m on hk ho Q
    obtain rfl : k = 12 := by omega
    rw [ec_Q_e hr Q]
    exact br_t ec_12 (H on)
  | succ d ih =>
    intro k q m on hk ho Q
    exact br_f (ec_ge (by omega)) ⟨13, ec_y33 HA HB R D (fun q' m' on' ho' Q' => ih (k + 1) q' m' on' (by omega) ho' Q') 12 0 q m on rfl ho Q⟩
theorem ec_yd4 {post : Int32 → SY → Prop} {x1 : Int32}
    (H : ∀ on', (∀ j, j < 12 → on' j = 0) → ∃ n25 : Nat, wY_depth_25 post n25 x1 0 K O A B C V bY on') :
    ∀ d i on, i + d = 12 → (∀ j, j < i → on j = 0) → wY_depth_4 post x1 (d + 1) (nI i) K O A B C V bY on := by
  intro d
  induction d with
  | zero =>
    intro i on hi c
    obtain rfl : i = 12 := by omega
    exact br_t ec_12 (H on c)
  | succ d ih =>
    intro i on hi c
    have hi' : i < 12 := by omega
    have I := ec_in hi'
    have n := ih (i + 1) (upd on i 0) (by omega) (fun j hj => by
      by_cases e : j = i
      · rw [e]; exact pk_us
      · rw [pk_un e]; exact c j (by omega))
    rw [wY_depth_4]
    dsimp only
    rw [ec_cl hi']
    exact br_f (ec_ge hi') ⟨I, nm_e (nm_r (nI_1 i) n)⟩
theorem ec_ydepth {post : Int32 → SY → Prop} (HA : ec_Ok A) (HB : ec_Ok B)
    {rk dp : Nat → Nat} (R : ec_Rk K (ec_ix A) (ec_ix B) rk) (D : ec_Dep K (ec_ix A) (ec_ix B) dp)
    (H : ∀ on', post (nI (ec_mx dp 12)) (K, O, A, B, C, V, bY, on')) : wpY_depth post (K, O, A, B, C, V, bY, on) := by
  obtain ⟨r, R', hr⟩ := ec_rk12 (ec_ixin HA) (ec_ixin HB) R
  refine ⟨13, ec_yd4 (fun on' ho => ⟨13, ec_y25 HA HB R' hr D H 12 0 (fun _ => 0) 0 on' rfl ho ?_⟩) 12 0 on rfl (fun j hj => by omega)⟩
  refine ⟨fun j hj => ⟨Nat.zero_le _, Nat.le_refl 0, fun c => ?_⟩, Nat.zero_le _⟩
  rcases c with c | c | c
  · exact (D.2.2 j hj c).symm
  · omega
  · omega
end ECY2
end
section
/-! ===== the relation, and what both sides do alike ===== -/
def ec_Inv (K V O A B : Nat → Int32) : Prop :=
  ec_Ok A ∧ ec_Ok B ∧ ec_V15 V ∧ ec_Set K (ec_ix A) (ec_ix B) O V ∧ ∃ rk, ec_Rk K (ec_ix A) (ec_ix B) rk
/-- the same kinds, formulas, clocks and values, settled and without a circle -/
def i_Rel (_ : Nat) (u : SX) (v : SY) : Prop :=
  ∃ K V O A B C bx bY on : Nat → Int32, u = (K, V, O, A, B, C, bx) ∧ v = (K, O, A, B, C, V, bY, on) ∧ ec_Inv K V O A B
theorem ec_rel {k : Nat} {K V O A B C bx bY on : Nat → Int32} (I : ec_Inv K V O A B) : i_Rel k (K, V, O, A, B, C, bx) (K, O, A, B, C, V, bY, on) :=
  ⟨K, V, O, A, B, C, bx, bY, on, rfl, rfl, I⟩
def ec_bs (x : Int32) : Prop := x < 0 ∨ (12 : Int32) ≤ x
theorem ec_six (x : Int32) : ec_bs x ∨ ∃ j, j < 12 ∧ x = nI j := by
  rcases pk_ix x (n := 12) (by decide) with h | h | h
  · exact Or.inl (Or.inl h)
  · exact Or.inl (Or.inr h)
  · exact Or.inr h
theorem ec_nbs {j : Nat} (hj : j < 12) : ¬ ec_bs (nI j) := by
  rintro (h | h)
  · exact nI_pos (by omega) h
  · exact ec_ge hj h
theorem ec_xsig {post : Int32 → Prop} (x : Int32) (H0 : ec_bs x → post 0) (H1 : ∀ j, j < 12 → x = nI j → post 1) : wpX_isSignal post x := by
  rcases ec_six x with b | ⟨j, hj, e⟩
  · rcases id b with h | h
    · exact br_t h (H0 b)
    · by_cases n : x < 0
      · exact br_t n (H0 b)
      · exact br_f n (br_t h (H0 b))
  · have q := H1 j hj e
    subst e
    exact br_f (nI_pos (by omega)) (br_f (ec_ge hj) q)
def ec_bo (x : Int32) : Prop := x < 0 ∨ (8 : Int32) < x
theorem ec_xop {post : Int32 → Prop} (x : Int32) (H0 : ec_bo x → post 0) (H1 : ¬ x < 0 → ¬ (8 : Int32) < x → post 1) : wpX_isOperation post x :=
  br_c (fun h => H0 (Or.inl h)) fun h => br_c (fun g => H0 (Or.inr g)) fun g => H1 h g
section ECO
variable {K V O A B C bx bY on : Nat → Int32}
theorem ec_ysig {post : Int32 → Prop} (x : Int32) (H0 : ec_bs x → post 0) (H1 : ∀ j, j < 12 → x = nI j → post 1) : wpY_isSignal post (K, O, A, B, C, V, bY, on) x := by
  rcases ec_six x with b | ⟨j, hj, e⟩
  · by_cases n : x < 0
    · exact br_t n (H0 b)
    · obtain ⟨m, hm, rfl⟩ := nI_of n
      have h12 : 12 ≤ m := by
        rcases id b with h | h
        · exact absurd h n
        · by_cases c : m < 12
          · exact absurd h (ec_ge c)
          · omega
      exact br_f n (br_t (nI_lt (a := 11) (by omega) hm) (H0 b))
  · have q := H1 j hj e
    subst e
    exact br_f (nI_pos (by omega)) (br_f (nI_nlt (a := 11) (by omega) (by decide)) q)
/-- is s a clock: one answer on both sides -/
theorem ec_clk2 (s : Int32) : ∀ d i, i + d = 12 → ∃ r : Int32, (∀ post : Int32 → Prop, post r → wX_isClock_2 post s K V O A B C bx (d + 1) (nI i)) ∧ (∀ post : Int32 → Prop, post r → wY_isClock_2 post s K O A B C V bY on (d + 1) (nI i)) := by
  intro d
  induction d with
  | zero =>
    intro i hi
    obtain rfl : i = 12 := by omega
    exact ⟨0, fun _ hp => br_t ec_12 hp, fun _ hp => br_t ec_12 hp⟩
  | succ d ih =>
    intro i hi
    have hi' : i < 12 := by omega
    have I := ec_in hi'
    obtain ⟨r, hX, hY⟩ := ih (i + 1) (by omega)
    by_cases z : K (nI i).toNatClampNeg = 2
    · by_cases y : C (nI i).toNatClampNeg = s
      · exact ⟨1, fun _ hp => br_f (ec_ge hi') ⟨I, br_t z ⟨I, br_t y hp⟩⟩, fun _ hp => br_f (ec_ge hi') ⟨I, br_t z ⟨I, br_t y hp⟩⟩⟩
      · exact ⟨r, fun post hp => br_f (ec_ge hi') ⟨I, br_t z ⟨I, br_f y (nm_r (nI_1 i) (hX post hp))⟩⟩, fun post hp => br_f (ec_ge hi') ⟨I, br_t z ⟨I, br_f y (nm_r (nI_1 i) (hY post hp))⟩⟩⟩
    · exact ⟨r, fun post hp => br_f (ec_ge hi') ⟨I, br_f z (nm_r (nI_1 i) (hX post hp))⟩, fun post hp => br_f (ec_ge hi') ⟨I, br_f z (nm_r (nI_1 i) (hY post hp))⟩⟩
theorem ec_clk (s : Int32) (K V O A B C bx bY on : Nat → Int32) : ∃ r : Int32, (∀ post : Int32 → Prop, post r → wpX_isClock post (K, V, O, A, B, C, bx) s) ∧ (∀ post : Int32 → Prop, post r → wpY_isClock post (K, O, A, B, C, V, bY, on) s) := by
  obtain ⟨r, hX, hY⟩ := ec_clk2 (K := K) (V := V) (O := O) (A := A) (B := B) (C := C) (bx := bx) (bY := bY) (on := on) s 12 0 rfl
  exact ⟨r, fun post hp => ⟨13, hX post hp⟩, fun post hp => ⟨13, hY post hp⟩⟩
/-- may the input be set: one answer on both sides -/
theorem ec_stat (v1 v2 : Int32) (K V O A B C bx bY on : Nat → Int32) : ∃ r : Int32, (∀ post : Int32 → Prop, post r → wpX_refusalOfSetting post (K, V, O, A, B, C, bx) v1 v2) ∧ (∀ post : Int32 → Prop, post r → wpY_status post (K, O, A, B, C, V, bY, on) v1 v2) ∧
    ((r = 0 ∧ ∃ s x, s < 12 ∧ v1 = nI s ∧ x < 16 ∧ v2 = nI x ∧ K s = 0) ∨ (¬ r = 0 ∧ ¬ 0 ≤ r)) := by
  rcases ec_six v1 with b | ⟨s, hs, rfl⟩
  · refine ⟨-1, fun post hp => ?_, fun post hp => ?_, Or.inr ⟨by decide, by decide⟩⟩
    · unfold wpX_refusalOfSetting; refine ec_xsig v1 (fun _ => br_t rfl hp) (fun j hj e => ?_)
      rw [e] at b
      exact absurd b (ec_nbs hj)
    · unfold wpY_status; refine ec_ysig v1 (fun _ => br_t rfl hp) (fun j hj e => ?_)
      rw [e] at b
      exact absurd b (ec_nbs hj)
  · have I := ec_in hs
    by_cases n : v2 < 0
    · refine ⟨-1, fun post hp => ?_, fun post hp => ?_, Or.inr ⟨by decide, by decide⟩⟩
      · unfold wpX_refusalOfSetting; exact ec_xsig _ (fun _ => br_t rfl hp) (fun j hj e => br_f (by decide) (br_t n hp))
      · unfold wpY_status; exact ec_ysig _ (fun _ => br_t rfl hp) (fun j hj e => br_f (by decide) (br_t n hp))
    · by_cases m : v2 ≤ 15
      · by_cases z : K (nI s).toNatClampNeg = 0
        · refine ⟨0, fun post hp => ?_, fun post hp => ?_, Or.inl ⟨rfl, ?_⟩⟩
          · unfold wpX_refusalOfSetting; exact ec_xsig _ (fun c => absurd c (ec_nbs hs)) (fun j hj e => br_f (by decide) (br_f n (br_t m ⟨I, br_t z hp⟩)))
          · unfold wpY_status; exact ec_ysig _ (fun c => absurd c (ec_nbs hs)) (fun j hj e => br_f (by decide) (br_f n (br_t m ⟨I, br_t z hp⟩)))
          · rw [ec_cl hs] at z
            obtain ⟨x, hx, rfl⟩ := nI_of2 (n := 15) (by decide) n m
            exact ⟨s, x, hs, rfl, by omega, rfl, z⟩
        · refine ⟨-3, fun post hp => ?_, fun post hp => ?_, Or.inr ⟨by decide, by decide⟩⟩
          · unfold wpX_refusalOfSetting; exact ec_xsig _ (fun c => absurd c (ec_nbs hs)) (fun j hj e => br_f (by decide) (br_f n (br_t m ⟨I, br_f z hp⟩)))
          · unfold wpY_status; exact ec_ysig _ (fun c => absurd c (ec_nbs hs)) (fun j hj e => br_f (by decide) (br_f n (br_t m ⟨I, br_f z hp⟩)))
      · refine ⟨-1, fun post hp => ?_, fun post hp => ?_, Or.inr ⟨by decide, by decide⟩⟩
        · unfold wpX_refusalOfSetting; exact ec_xsig _ (fun _ => br_t rfl hp) (fun j hj e => br_f (by decide) (br_f n (br_f m hp)))
        · unfold wpY_status; exact ec_ysig _ (fun _ => br_t rfl hp) (fun j hj e => br_f (by decide) (br_f n (br_f m hp)))
theorem ec_Ok_upd {s a : Nat} (ha : a < 12) (H : ec_Ok A) : ec_Ok (upd A s (nI a)) := by
  intro i hi
  by_cases e : i = s
  · rw [e, pk_us]; exact ec_in ha
  · rw [pk_un e]; exact H i hi
theorem ec_ix_s {s a : Nat} (ha : a < 12) : ec_ix (upd A s (nI a)) s = a := by
  unfold ec_ix
  rw [pk_us, ec_cl ha]
theorem ec_ix_n {s : Nat} {x : Int32} : ∀ i, i ≠ s → ec_ix (upd A s x) i = ec_ix A i := by
  intro i h
  unfold ec_ix
  rw [pk_un h]
theorem ec_uu {s : Nat} {x : Int32} : upd (upd K s x) s (K s) = K := by
  funext j
  by_cases e : j = s
  · rw [e, pk_us]
  · rw [pk_un e, pk_un e]
/-- a signal that is no wire afterwards: all else stays -/
theorem ec_Inv_sub {K' O' A' B' : Nat → Int32} {s : Nat} (I : ec_Inv K V O A B) (hA : ec_Ok A') (hB : ec_Ok B') (hK : ∀ i, i ≠ s → K' i = K i) (hO : ∀ i, i ≠ s → O' i = O i)
    (hf : ∀ i, i ≠ s → ec_ix A' i = ec_ix A i) (hh : ∀ i, i ≠ s → ec_ix B' i = ec_ix B i) (hs : K' s ≠ 1) : ec_Inv K' V O' A' B' := by
  obtain ⟨_, _, H15, S, rk, R⟩ := I
  refine ⟨hA, hB, H15, ?_, rk, ec_Rk_sub hK hf hh hs R⟩
  intro i hi hk
  by_cases e : i = s
  · rw [e] at hk; exact absurd hk hs
  · rw [hO i e, hf i e, hh i e]
    rw [hK i e] at hk
    exact S i hi hk
/-- after an input has changed -/
theorem ec_Inv_ch {s : Nat} {x : Int32} (I : ec_Inv K V O A B) (hx : ∃ n, n < 16 ∧ x = nI n) : ec_Inv K (ec_ch K (ec_ix A) (ec_ix B) O C s x V) O A B := by
  obtain ⟨HA, HB, H15, S, rk, R⟩ := I
  exact ⟨HA, HB, ec_ch15 (ec_ixin HA) (ec_ixin HB) H15 hx, ec_settled (ec_ixin HA) (ec_ixin HB) R _, rk, R⟩
theorem ec_Inv_pv {s : Nat} {x y : Int32} (I : ec_Inv K V O A B) (hx : ∃ n, n < 16 ∧ x = nI n) (hy : ∃ n, n < 16 ∧ y = nI n) : ∀ k, ec_Inv K (ec_pv K (ec_ix A) (ec_ix B) O C s x y V k) O A B := by
  intro k
  induction k with
  | zero => exact I
  | succ k ih => exact ec_Inv_ch (ec_Inv_ch ih hx) hy
/-- s is a wire afterwards -/
theorem ec_Inv_wire {s a b : Nat} {o : Int32} (I : ec_Inv K V O A B) (ha : a < 12) (hb : b < 12)
    (R : ∃ rk, ec_Rk (upd K s 1) (ec_ix (upd A s (nI a))) (ec_ix (upd B s (nI b))) rk) :
    ec_Inv (upd K s 1) (ec_se (upd K s 1) (ec_ix (upd A s (nI a))) (ec_ix (upd B s (nI b))) (upd O s o) V 12) (upd O s o) (upd A s (nI a)) (upd B s (nI b)) := by
  obtain ⟨HA, HB, H15, _, _⟩ := I
  obtain ⟨rk, R⟩ := R
  have HA' := ec_Ok_upd (s := s) ha HA
  have HB' := ec_Ok_upd (s := s) hb HB
  exact ⟨HA', HB', ec_V15_se (ec_ixin HA') (ec_ixin HB') H15 12, ec_settled (ec_ixin HA') (ec_ixin HB') R V, rk, R⟩
end ECO
end
section
/-! ===== the reference's wire, register, times of a pulse ===== -/
section ECW
variable {K V O A B C bY on : Nat → Int32} {s a b : Nat} {o : Int32}
theorem ec_ywb {post : Int32 → SY → Prop} {x y z : Int32} (c : ec_bo o ∨ ec_bs x ∨ ec_bs y ∨ ec_bs z) (H : post (-1) (K, O, A, B, C, V, bY, on)) :
    wpY_wire post (K, O, A, B, C, V, bY, on) x o y z := by
  unfold wpY_wire
  dsimp only
  refine br_c (fun _ => H) fun n1 => br_c (fun _ => H) fun n2 => ?_
  refine ec_ysig x (fun _ => br_t rfl H) fun s hs e1 => br_f (by decide) ?_
  refine ec_ysig y (fun _ => br_t rfl H) fun a ha e2 => br_f (by decide) ?_
  refine ec_ysig z (fun _ => br_t rfl H) fun b hb e3 => ?_
  exfalso
  subst e1 e2 e3
  rcases c with (c | c) | c | c | c
  · exact n1 c
  · exact n2 c
  · exact ec_nbs hs c
  · exact ec_nbs ha c
  · exact ec_nbs hb c
theorem ec_ysg {post : Int32 → Prop} (hs : s < 12) (H : post 1) : wpY_isSignal post (K, O, A, B, C, V, bY, on) (nI s) :=
  ec_ysig _ (fun c => absurd c (ec_nbs hs)) fun _ _ _ => H
theorem ec_yw0 {post : Int32 → SY → Prop} (hs : s < 12) (ha : a < 12) (hb : b < 12) (g1 : ¬ o < 0) (g2 : ¬ (8 : Int32) < o) {r : Int32} (hr : ¬ r = 0)
    (hY : ∀ post : Int32 → Prop, post r → wpY_isClock post (K, O, A, B, C, V, bY, on) (nI s)) (H : post (-3) (K, O, A, B, C, V, bY, on)) :
    wpY_wire post (K, O, A, B, C, V, bY, on) (nI s) o (nI a) (nI b) := by
  unfold wpY_wire
  dsimp only
  refine br_f g1 (br_f g2 ?_)
  refine ec_ysg hs (br_f (by decide) ?_)
  refine ec_ysg ha (br_f (by decide) ?_)
  refine ec_ysg hb (br_f (by decide) ?_)
  exact hY _ (br_f hr H)
theorem ec_yw1 {post : Int32 → SY → Prop} (HA : ec_Ok A) (HB : ec_Ok B) (hs : s < 12) (ha : a < 12) (hb : b < 12) (g1 : ¬ o < 0) (g2 : ¬ (8 : Int32) < o) {r : Int32} (hr : r = 0)
    (hY : ∀ post : Int32 → Prop, post r → wpY_isClock post (K, O, A, B, C, V, bY, on) (nI s))
    (F : ec_F (upd K s 1) (ec_ix (upd A s (nI a))) (ec_ix (upd B s (nI b))) s 13 s) (H : ∀ on', post (-2) (K, O, A, B, C, V, bY, on')) :
    wpY_wire post (K, O, A, B, C, V, bY, on) (nI s) o (nI a) (nI b) := by
  have I := ec_in hs
  unfold wpY_wire
  dsimp only
  rw [ec_cl hs]
  refine br_f g1 (br_f g2 ?_)
  refine ec_ysg hs (br_f (by decide) ?_)
  refine ec_ysg ha (br_f (by decide) ?_)
  refine ec_ysg hb (br_f (by decide) ?_)
  refine hY _ (br_t hr ⟨I, nm_e ⟨I, nm_e ⟨I, nm_e ⟨I, nm_e (ec_ygive hs ?_)⟩⟩⟩⟩)
  refine ec_yhc (ec_Ok_upd ha HA) (ec_Ok_upd hb HB) (fun on' _ => br_f (by decide) (ec_ygive hs ?_)) (fun on' c => absurd F (c s hs))
  rw [ec_uu, ec_uu, ec_uu, ec_uu]
  exact H on'
theorem ec_yw2 {post : Int32 → SY → Prop} (HA : ec_Ok A) (HB : ec_Ok B) (hs : s < 12) (ha : a < 12) (hb : b < 12) (g1 : ¬ o < 0) (g2 : ¬ (8 : Int32) < o) {r : Int32} (hr : r = 0)
    (hY : ∀ post : Int32 → Prop, post r → wpY_isClock post (K, O, A, B, C, V, bY, on) (nI s))
    (R : ∃ rk, ec_Rk (upd K s 1) (ec_ix (upd A s (nI a))) (ec_ix (upd B s (nI b))) rk)
    (H : ∀ on', post (ec_se (upd K s 1) (ec_ix (upd A s (nI a))) (ec_ix (upd B s (nI b))) (upd O s o) V 12 (nI s).toNatClampNeg) (upd K s 1, upd O s o, upd A s (nI a), upd B s (nI b), C, ec_se (upd K s 1) (ec_ix (upd A s (nI a))) (ec_ix (upd B s (nI b))) (upd O s o) V 12, bY, on')) :
    wpY_wire post (K, O, A, B, C, V, bY, on) (nI s) o (nI a) (nI b) := by
  have I := ec_in hs
  obtain ⟨rk, R⟩ := R
  have HA' := ec_Ok_upd (s := s) ha HA
  have HB' := ec_Ok_upd (s := s) hb HB
  rw [ec_cl hs] at H
  unfold wpY_wire
  dsimp only
  rw [ec_cl hs]
  refine br_f g1 (br_f g2 ?_)
  refine ec_ysg hs (br_f (by decide) ?_)
  refine ec_ysg ha (br_f (by decide) ?_)
  refine ec_ysg hb (br_f (by decide) ?_)
  refine hY _ (br_t hr ⟨I, nm_e ⟨I, nm_e ⟨I, nm_e ⟨I, nm_e (ec_ygive hs ?_)⟩⟩⟩⟩)
  refine ec_yhc HA' HB' (fun on' c => ?_) (fun on' _ => br_t rfl (ec_ysettle HA' HB' ⟨I, H on'⟩))
  obtain ⟨w, n, hw, hn⟩ := c
  exact absurd (ec_F_rk (ec_ixin HA') (ec_ixin HB') R n w hw hn) (Nat.lt_irrefl _)
theorem ec_yrb {post : Int32 → SY → Prop} {x y z : Int32} (c : ec_bo o ∨ ec_bs x ∨ ec_bs y ∨ z < 0 ∨ ¬ z < 144) (H : post (-1) (K, O, A, B, C, V, bY, on)) :
    wpY_register post (K, O, A, B, C, V, bY, on) x o y z := by
  unfold wpY_register
  dsimp only
  refine br_c (fun _ => H) fun n1 => br_c (fun _ => H) fun n2 => ?_
  refine ec_ysig x (fun _ => br_t rfl H) fun s hs e1 => br_f (by decide) ?_
  refine ec_ysig y (fun _ => br_t rfl H) fun a ha e2 => br_f (by decide) ?_
  refine br_c (fun _ => H) fun n3 => br_c (fun n4 => ?_) (fun _ => H)
  exfalso
  subst e1 e2
  rcases c with (c | c) | c | c | c | c
  · exact n1 c
  · exact n2 c
  · exact ec_nbs hs c
  · exact ec_nbs ha c
  · exact n3 c
  · obtain ⟨j, hj, rfl⟩ := nI_of2 (n := 143) (by decide) n3 n4
    exact c (nI_lt (b := 144) (by omega) (by decide))
theorem ec_yr0 {post : Int32 → SY → Prop} {j : Nat} (hs : s < 12) (ha : a < 12) (g1 : ¬ o < 0) (g2 : ¬ (8 : Int32) < o) (h4 : j < 144) {r : Int32}
    (c : ¬ K (j / 12) = 0 ∨ nI (j / 12) = nI s ∨ ¬ r = 0)
    (hY : ∀ post : Int32 → Prop, post r → wpY_isClock post (K, O, A, B, C, V, bY, on) (nI s)) (H : post (-3) (K, O, A, B, C, V, bY, on)) :
    wpY_register post (K, O, A, B, C, V, bY, on) (nI s) o (nI a) (nI j) := by
  have q1 : nI j / 12 = nI (j / 12) := pk_div (by omega) (d := 12) (by decide) (by decide)
  have hc : j / 12 < 12 := by omega
  unfold wpY_register
  dsimp only
  refine br_f g1 (br_f g2 ?_)
  refine ec_ysg hs (br_f (by decide) ?_)
  refine ec_ysg ha (br_f (by decide) ?_)
  refine br_f (nI_pos (by omega)) (br_t (nI_le (b := 143) (by omega) (by decide)) ⟨by decide, nm_r q1 ⟨ec_in hc, ?_⟩⟩)
  rw [ec_cl hc]
  by_cases z : K (j / 12) = 0
  · refine br_t z ?_
    by_cases e : nI (j / 12) = nI s
    · exact br_t e H
    · refine br_f e (hY _ (br_f ?_ H))
      rcases c with c | c | c
      · exact absurd z c
      · exact absurd c e
      · exact c
  · exact br_f z H
theorem ec_yr1 {post : Int32 → SY → Prop} {j : Nat} (hs : s < 12) (ha : a < 12) (g1 : ¬ o < 0) (g2 : ¬ (8 : Int32) < o) (h4 : j < 144) {r : Int32}
    (z : K (j / 12) = 0) (e : ¬ nI (j / 12) = nI s) (hr : r = 0)
    (hY : ∀ post : Int32 → Prop, post r → wpY_isClock post (K, O, A, B, C, V, bY, on) (nI s))
    (I' : ec_Inv (upd K s 2) V (upd O s o) (upd A s (nI a)) (upd B s (nI (j % 12))))
    (H : post (V s) (upd K s 2, upd O s o, upd A s (nI a), upd B s (nI (j % 12)), upd C s (nI (j / 12)), V, bY, on)) :
    wpY_register post (K, O, A, B, C, V, bY, on) (nI s) o (nI a) (nI j) := by
  have q1 : nI j / 12 = nI (j / 12) := pk_div (by omega) (d := 12) (by decide) (by decide)
  have q2 : nI j - nI j / 12 * 12 = nI (j % 12) := pk_rem (by omega) (d := 12) (by decide) (by decide)
  have hc : j / 12 < 12 := by omega
  unfold wpY_register
  dsimp only
  rw [q2]
  refine br_f g1 (br_f g2 ?_)
  refine ec_ysg hs (br_f (by decide) ?_)
  refine ec_ysg ha (br_f (by decide) ?_)
  refine br_f (nI_pos (by omega)) (br_t (nI_le (b := 143) (by omega) (by decide)) ⟨by decide, nm_r q1 ⟨ec_in hc, ?_⟩⟩)
  rw [ec_cl hc, ec_cl hs]
  refine br_t z (br_f e (hY _ (br_t hr ⟨by decide, ec_ygive hs ⟨ec_in hs, nm_e (ec_ysettle I'.1 I'.2.1 ?_)⟩⟩)))
  rw [ec_se_fix I'.2.2.2.1]
  exact ⟨ec_in hs, H⟩
end ECW
/-- how often a pulse goes: at least 0, at most 16 -/
theorem ec_times (n : Int32) : ∃ T : Nat, T ≤ 16 ∧ (∀ k, k < T → ¬ n ≤ nI k) ∧ (T = 16 ∨ n ≤ nI T) ∧
    ∀ P : Int32 → Prop, P (nI T) → ((0 ≤ n → (((n ≤ 16 → P n) ∧ (¬ n ≤ 16 → P 16)))) ∧ (¬ 0 ≤ n → P 0)) := by
  by_cases h : n < 0
  · refine ⟨0, by omega, fun k hk => by omega, Or.inr (Int32.le_of_lt h), fun P hP => br_f ?_ hP⟩
    exact Int32.not_le.mpr h
  · have h0 : 0 ≤ n := Int32.not_lt.mp h
    obtain ⟨j, hj, rfl⟩ := nI_of h
    by_cases c : j ≤ 16
    · refine ⟨j, c, fun k hk => nI_ge hk hj, Or.inr (nI_le (Nat.le_refl j) hj), fun P hP => br_t h0 (br_t (nI_le (b := 16) c (by decide)) hP)⟩
    · refine ⟨16, Nat.le_refl 16, fun k hk => nI_ge (by omega) hj, Or.inl rfl, fun P hP => br_t h0 (br_f (nI_ge (a := 16) (by omega) hj) hP)⟩
/-! ===== what is owed ===== -/
theorem i_up {k : Nat} {u : SX} {v : SY} (h : i_Rel k u v) : i_Rel (k + 5) u v := h
theorem ec_n1 : ¬ (0 : Int32) = 1 := by decide
theorem i_vc0 : wpX_init (fun u => wpY_init (fun v => i_Rel 0 u v)) := by
  show i_Rel 0 ((fun _ => 0), (fun _ => 0), (fun _ => 0), (fun _ => 0), (fun _ => 0), (fun _ => 0), (fun _ => 0)) ((fun _ => 0), (fun _ => 0), (fun _ => 0), (fun _ => 0), (fun _ => 0), (fun _ => 0), (fun _ => 0), (fun _ => 0))
  exact ec_rel ⟨fun i hi => ec_in (i := 0) (by decide), fun i hi => ec_in (i := 0) (by decide), fun i hi => ⟨0, by decide, rfl⟩, fun i hi hk => absurd hk ec_n1, fun _ => 0, fun i hi hk => absurd hk ec_n1⟩
theorem i_vc_wire {k : Nat} {u : SX} {v : SY} (I : i_Rel k u v) (hk : k + 5 ≤ 2560) (v1 : Int32) (v2 : Int32) (v3 : Int32) (v4 : Int32) : wpX_wire (fun r u' => wpY_wire (fun r' v' => r' = r ∧ i_Rel (k + 5) u' v') v v1 v2 v3 v4) u v1 v2 v3 v4 := by
  obtain ⟨K, V, O, A, B, C, bx, bY, on, rfl, rfl, I⟩ := I
  have J := I
  obtain ⟨HA, HB, H15, S, rk, R⟩ := J
  unfold wpX_wire
  dsimp only
  have bad : (ec_bo v2 ∨ ec_bs v1 ∨ ec_bs v3 ∨ ec_bs v4) → wpY_wire (fun r' v' => r' = -1 ∧ i_Rel (k + 5) (K, V, O, A, B, C, bx) v') (K, O, A, B, C, V, bY, on) v1 v2 v3 v4 := fun b => ec_ywb b ⟨rfl, ec_rel I⟩
  refine ec_xsig v1 (fun b => br_t rfl (bad (Or.inr (Or.inl b)))) fun s hs e1 => br_f (by decide) ?_
  refine ec_xop v2 (fun b => br_t rfl (bad (Or.inl b))) fun g1 g2 => br_f (by decide) ?_
  refine ec_xsig v3 (fun b => br_t rfl (bad (Or.inr (Or.inr (Or.inl b))))) fun a ha e3 => br_f (by decide) ?_
  refine ec_xsig v4 (fun b => br_t rfl (bad (Or.inr (Or.inr (Or.inr b))))) fun b hb e4 => br_f (by decide) ?_
  subst e1 e3 e4
  clear bad
  obtain ⟨r, hX, hY⟩ := ec_clk (nI s) K V O A B C bx bY on
  refine hX _ ?_
  by_cases hr : r = 0
  · refine br_t hr ?_
    refine ec_xcirc HA HB hs ha hb (fun nc => br_t rfl ?_) (fun cc => br_f (by decide) ?_)
    · have R' := ec_circ2 (K' := upd K s 1) (fun i n => pk_un n) (ec_ix_n (A := A) (x := nI a)) (ec_ix_n (A := B) (x := nI b)) (ec_ix_s ha) (ec_ix_s hb) ha hb (ec_ixin HA) (ec_ixin HB) R nc
      have I' := ec_Inv_wire (o := v2) I ha hb R'
      refine ⟨ec_in hs, nm_r (e' := upd K s 1) (by rw [ec_cl hs]) (ec_xput hs ?_)⟩
      refine ec_xsettle (ec_Ok_upd ha HA) (ec_Ok_upd hb HB) ⟨ec_in hs, ?_⟩
      exact ec_yw2 HA HB hs ha hb g1 g2 hr hY R' fun on' => ⟨rfl, ec_rel I'⟩
    · have F := ec_circ1 (K' := upd K s 1) (fun i n => pk_un n) (ec_ix_n (A := A) (x := nI a)) (ec_ix_n (A := B) (x := nI b)) pk_us (ec_ix_s ha) (ec_ix_s hb) ha hb (ec_ixin HA) (ec_ixin HB) R cc
      exact ec_yw1 HA HB hs ha hb g1 g2 hr hY F fun on' => ⟨rfl, ec_rel I⟩
  · exact br_f hr (ec_yw0 hs ha hb g1 g2 hr hY ⟨rfl, ec_rel I⟩)
theorem i_vc_register {k : Nat} {u : SX} {v : SY} (I : i_Rel k u v) (hk : k + 5 ≤ 2560) (v1 : Int32) (v2 : Int32) (v3 : Int32) (v4 : Int32) : wpX_register (fun r u' => wpY_register (fun r' v' => r' = r ∧ i_Rel (k + 5) u' v') v v1 v2 v3 v4) u v1 v2 v3 v4 := by
  obtain ⟨K, V, O, A, B, C, bx, bY, on, rfl, rfl, I⟩ := I
  have J := I
  obtain ⟨HA, HB, H15, S, rk, R⟩ := J
  unfold wpX_register
  dsimp only
  have bad : (ec_bo v2 ∨ ec_bs v1 ∨ ec_bs v3 ∨ v4 < 0 ∨ ¬ v4 < 144) → wpY_register (fun r' v' => r' = -1 ∧ i_Rel (k + 5) (K, V, O, A, B, C, bx) v') (K, O, A, B, C, V, bY, on) v1 v2 v3 v4 := fun b => ec_yrb b ⟨rfl, ec_rel I⟩
  refine ec_xsig v1 (fun b => br_t rfl (bad (Or.inr (Or.inl b)))) fun s hs e1 => br_f (by decide) ?_
  refine ec_xop v2 (fun b => br_t rfl (bad (Or.inl b))) fun g1 g2 => br_f (by decide) ?_
  refine ec_xsig v3 (fun b => br_t rfl (bad (Or.inr (Or.inr (Or.inl b))))) fun a ha e3 => br_f (by decide) ?_
  refine br_c (fun b => bad (Or.inr (Or.inr (Or.inr (Or.inl b))))) fun g3 => br_c (fun g4 => ?_) (fun b => bad (Or.inr (Or.inr (Or.inr (Or.inr b)))))
  subst e1 e3
  clear bad
  obtain ⟨j, hj, rfl⟩ := nI_of g3
  have h4 : j < 144 := (nI_ltI hj (b := 144) (by decide)).mp g4
  obtain ⟨r, hX, hY⟩ := ec_clk (nI s) K V O A B C bx bY on
  have q1 : nI j / 12 = nI (j / 12) := pk_div hj (d := 12) (by decide) (by decide)
  have q2 : nI j - nI j / 12 * 12 = nI (j % 12) := pk_rem hj (d := 12) (by decide) (by decide)
  have hc : j / 12 < 12 := by omega
  have hb : j % 12 < 12 := by omega
  refine ⟨by decide, nm_r q1 ⟨by decide, nm_r q2 ⟨ec_in hc, ?_⟩⟩⟩
  rw [ec_cl hc, ec_cl hs]
  by_cases z : K (j / 12) = 0
  · refine br_t z ?_
    by_cases e : nI (j / 12) = nI s
    · exact br_t e (ec_yr0 hs ha g1 g2 h4 (Or.inr (Or.inl e)) hY ⟨rfl, ec_rel I⟩)
    · refine br_f e (hX _ ?_)
      by_cases hr : r = 0
      · have A' := ec_Ok_upd (s := s) ha HA
        have B' := ec_Ok_upd (s := s) hb HB
        have I' : ec_Inv (upd K s 2) V (upd O s v2) (upd A s (nI a)) (upd B s (nI (j % 12))) := ec_Inv_sub I A' B' (fun i n => pk_un n) (fun i n => pk_un n) ec_ix_n ec_ix_n (by rw [pk_us]; decide)
        refine br_t hr ⟨ec_in hs, nm_e (ec_xput hs ⟨ec_in hs, nm_e ⟨ec_in hs, ?_⟩⟩)⟩
        exact ec_yr1 hs ha g1 g2 h4 z e hr hY I' ⟨rfl, ec_rel I'⟩
      · exact br_f hr (ec_yr0 hs ha g1 g2 h4 (Or.inr (Or.inr hr)) hY ⟨rfl, ec_rel I⟩)
  · exact br_f z (ec_yr0 hs ha g1 g2 h4 (Or.inl z) hY ⟨rfl, ec_rel I⟩)
theorem i_vc_free {k : Nat} {u : SX} {v : SY} (I : i_Rel k u v) (hk : k + 5 ≤ 2560) (v1 : Int32) : wpX_free (fun r u' => wpY_free (fun r' v' => r' = r ∧ i_Rel (k + 5) u' v') v v1) u v1 := by
  obtain ⟨K, V, O, A, B, C, bx, bY, on, rfl, rfl, I⟩ := I
  unfold wpX_free
  dsimp only
  refine ec_xsig v1 (fun b => br_t rfl ?_) fun s hs e1 => br_f (by decide) ?_
  · unfold wpY_free
    refine ec_ysig v1 (fun _ => br_t rfl ⟨rfl, ec_rel I⟩) fun s hs e => ?_
    rw [e] at b
    exact absurd b (ec_nbs hs)
  · subst e1
    have I' : ec_Inv (upd K s 0) V O A B := ec_Inv_sub I I.1 I.2.1 (fun i n => pk_un n) (fun i n => rfl) (fun i n => rfl) (fun i n => rfl) (by rw [pk_us]; decide)
    rw [ec_cl hs]
    refine ⟨ec_in hs, nm_e ⟨ec_in hs, ?_⟩⟩
    unfold wpY_free
    dsimp only
    refine ec_ysig _ (fun b => absurd b (ec_nbs hs)) fun _ _ _ => br_f (by decide) ?_
    rw [ec_cl hs]
    refine ⟨ec_in hs, nm_e (ec_ysettle I.1 I.2.1 ?_)⟩
    rw [ec_se_fix I'.2.2.2.1]
    exact ⟨ec_in hs, rfl, ec_rel I'⟩
theorem i_vc_set {k : Nat} {u : SX} {v : SY} (I : i_Rel k u v) (hk : k + 5 ≤ 2560) (v1 : Int32) (v2 : Int32) : wpX_set (fun r u' => wpY_set (fun r' v' => r' = r ∧ i_Rel (k + 5) u' v') v v1 v2) u v1 v2 := by
  obtain ⟨K, V, O, A, B, C, bx, bY, on, rfl, rfl, I⟩ := I
  obtain ⟨r, hX, hY, c⟩ := ec_stat v1 v2 K V O A B C bx bY on
  unfold wpX_set
  dsimp only
  refine hX _ ?_
  rcases c with ⟨hr, s, x, hs, rfl, hx, rfl, hk0⟩ | ⟨hr, hn⟩
  · have HA := I.1
    have HB := I.2.1
    have ex : ∃ n, n < 16 ∧ nI x = nI n := ⟨x, hx, rfl⟩
    refine br_t hr (ec_xci HA HB hs fun bx' hb => ⟨13, ec_xset25 ?_ 12 0 rfl⟩)
    unfold wpY_set
    refine hY _ (br_t (by rw [hr]; decide) ?_)
    refine ec_ych HA HB hs (I.2.2.1 s hs) ex fun bY' on' hb' => ⟨13, ec_yset26 ⟨?_, ec_rel (ec_Inv_ch I ex)⟩ 12 0 rfl⟩
    refine congrArg nI (ec_cnt_eq 12 fun t ht => ?_)
    show (!decide (ec_ch K (ec_ix A) (ec_ix B) O C s (nI x) V t = bY' t)) = (!decide (ec_ch K (ec_ix A) (ec_ix B) O C s (nI x) V t = bx' t))
    rw [hb t ht, hb' t ht]
  · refine br_f hr ?_
    unfold wpY_set
    exact hY _ (br_f hn ⟨rfl, ec_rel I⟩)
theorem i_vc_pulse {k : Nat} {u : SX} {v : SY} (I : i_Rel k u v) (hk : k + 5 ≤ 2560) (v1 : Int32) (v2 : Int32) (v3 : Int32) : wpX_pulse (fun r u' => wpY_pulse (fun r' v' => r' = r ∧ i_Rel (k + 5) u' v') v v1 v2 v3) u v1 v2 v3 := by
  obtain ⟨K, V, O, A, B, C, bx, bY, on, rfl, rfl, I⟩ := I
  obtain ⟨r, hX, hY, c⟩ := ec_stat v1 v2 K V O A B C bx bY on
  unfold wpX_pulse
  dsimp only
  refine hX _ ?_
  rcases c with ⟨hr, s, x, hs, rfl, hx, rfl, hk0⟩ | ⟨hr, hn⟩
  · have HA := I.1
    have HB := I.2.1
    have ex : ∃ n, n < 16 ∧ nI x = nI n := ⟨x, hx, rfl⟩
    have ey := I.2.2.1 s hs
    obtain ⟨T, hT, hlt, he, hY2⟩ := ec_times v3
    rw [ec_cl hs]
    refine br_t hr ⟨ec_in hs, nm_e ⟨T + 1, ec_xpu HA HB hs hk0 hT hlt he (fun bx' => ?_) T 0 bx (Nat.zero_add T)⟩⟩
    unfold wpY_pulse
    refine hY _ (br_t (by rw [hr]; decide) ?_)
    refine hY2 (fun z => wY_pulse_36 _ (nI s) (nI x) z K O A B C V bY on) ?_
    unfold wY_pulse_36
    rw [ec_cl hs]
    exact ⟨ec_in hs, nm_e ⟨T + 1, ec_ypu HA HB hs hT I.2.2.1 ex ey (fun bY' on' => ⟨rfl, ec_rel (ec_Inv_pv I ex ey T)⟩) T 0 bY on (Nat.zero_add T)⟩⟩
  · refine br_f hr ?_
    unfold wpY_pulse
    exact hY _ (br_f hn ⟨rfl, ec_rel I⟩)
theorem i_vc_value {k : Nat} {u : SX} {v : SY} (I : i_Rel k u v) (hk : k + 5 ≤ 2560) (v1 : Int32) : wpX_value (fun r => wpY_value (fun r' => r' = r ∧ i_Rel (k + 5) u v) v v1) u v1 := by
  obtain ⟨K, V, O, A, B, C, bx, bY, on, rfl, rfl, I⟩ := I
  unfold wpX_value wpY_value
  dsimp only
  refine ec_xsig v1 (fun b => br_t rfl ?_) fun s hs e1 => br_f (by decide) ?_
  · refine ec_ysig v1 (fun _ => br_t rfl ⟨rfl, ec_rel I⟩) fun s hs e => ?_
    rw [e] at b
    exact absurd b (ec_nbs hs)
  · subst e1
    refine ⟨ec_in hs, ec_ysig _ (fun b => absurd b (ec_nbs hs)) fun _ _ _ => br_f (by decide) ⟨ec_in hs, rfl, ec_rel I⟩⟩
theorem i_vc_kind {k : Nat} {u : SX} {v : SY} (I : i_Rel k u v) (hk : k + 5 ≤ 2560) (v1 : Int32) : wpX_kind (fun r => wpY_kind (fun r' => r' = r ∧ i_Rel (k + 5) u v) v v1) u v1 := by
  obtain ⟨K, V, O, A, B, C, bx, bY, on, rfl, rfl, I⟩ := I
  unfold wpX_kind wpY_kind
  dsimp only
  refine ec_xsig v1 (fun b => br_t rfl ?_) fun s hs e1 => br_f (by decide) ?_
  · refine ec_ysig v1 (fun _ => br_t rfl ⟨rfl, ec_rel I⟩) fun s hs e => ?_
    rw [e] at b
    exact absurd b (ec_nbs hs)
  · subst e1
    refine ⟨ec_in hs, ec_ysig _ (fun b => absurd b (ec_nbs hs)) fun _ _ _ => br_f (by decide) ⟨ec_in hs, rfl, ec_rel I⟩⟩
theorem i_vc_hanging {k : Nat} {u : SX} {v : SY} (I : i_Rel k u v) (hk : k + 5 ≤ 2560) (v1 : Int32) : wpX_hanging (fun r => wpY_hanging (fun r' v' => r' = r ∧ i_Rel (k + 5) u v') v v1) u v1 := by
  obtain ⟨K, V, O, A, B, C, bx, bY, on, rfl, rfl, I⟩ := I
  have J := I
  obtain ⟨HA, HB, H15, S, rk, R⟩ := J
  obtain ⟨rk', R', hr⟩ := ec_rk12 (ec_ixin HA) (ec_ixin HB) R
  unfold wpX_hanging
  dsimp only
  refine ec_xsig v1 (fun b => br_t rfl ?_) fun s hs e1 => br_f (by decide) ?_
  · unfold wpY_hanging
    refine ec_ysig v1 (fun _ => br_t rfl ⟨rfl, ec_rel I⟩) fun s hs e => ?_
    rw [e] at b
    exact absurd b (ec_nbs hs)
  · subst e1
    refine ec_xwo HA HB hs fun r hX => ?_
    unfold wpY_hanging
    refine ec_ysig _ (fun b => absurd b (ec_nbs hs)) fun _ _ _ => br_f (by decide) ?_
    refine ec_yfh HA HB fun on' Sn Cm => ⟨13, ec_yh18 hs (fun r' hY => ⟨?_, ec_rel I⟩) 12 0 0 rfl ?_⟩
    · intro i hi
      rw [b_0]
      constructor
      · intro c; exact absurd c (by decide)
      · intro c; omega
    · apply b_ext
      intro i hi
      rw [Bool.eq_iff_iff, hX i hi, hY i hi]
      constructor
      · rintro ⟨c1, c2⟩
        obtain ⟨n, hn⟩ := Sn i c1 s hs c2
        exact ⟨c1, ec_F_stab (ec_ixin HA) (ec_ixin HB) R' 12 n i c1 (hr i c1) hn⟩
      · rintro ⟨c1, c2⟩
        exact ⟨c1, Cm i c1 s hs (ec_F_s _ _ c2)⟩
theorem i_vc_depth {k : Nat} {u : SX} {v : SY} (I : i_Rel k u v) (hk : k + 5 ≤ 2560) : wpX_depth (fun r => wpY_depth (fun r' v' => r' = r ∧ i_Rel (k + 5) u v') v) u := by
  obtain ⟨K, V, O, A, B, C, bx, bY, on, rfl, rfl, I⟩ := I
  have J := I
  obtain ⟨HA, HB, H15, S, rk, R⟩ := J
  have D := ec_dep (ec_ixin HA) (ec_ixin HB) R
  exact ec_xdepth HA HB D (ec_ydepth HA HB R D fun on' => ⟨rfl, ec_rel I⟩)
end
