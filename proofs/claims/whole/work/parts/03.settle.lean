/-! ===== settling: twelve rounds over twelve signals, in place ===== -/
def ec_g (o p q : Int32) : Int32 :=
  if o = 0 then p &&& q else if o = 1 then p ||| q else if o = 2 then p ^^^ q else if o = 3 then (p + q) &&& 15 else if o = 4 then (p - q) &&& 15
  else if o = 5 then (if q ≤ p then 0 else 1) else if o = 6 then p else if o = 7 then 15 - p else if p = 0 then q else 15 - q
def ec_st (K : Nat → Int32) (f h : Nat → Nat) (O : Nat → Int32) (V : Nat → Int32) (i : Nat) : Nat → Int32 :=
  if K i = 1 then upd V i (ec_g (O i) (V (f i)) (V (h i))) else V
def ec_sw (K : Nat → Int32) (f h : Nat → Nat) (O : Nat → Int32) (V : Nat → Int32) : Nat → (Nat → Int32)
  | 0 => V
  | i + 1 => ec_st K f h O (ec_sw K f h O V i) i
def ec_se (K : Nat → Int32) (f h : Nat → Nat) (O : Nat → Int32) (V : Nat → Int32) : Nat → (Nat → Int32)
  | 0 => V
  | k + 1 => ec_sw K f h O (ec_se K f h O V k) 12
/-- what the formulas say, unrolled k times -/
def ec_E (K : Nat → Int32) (f h : Nat → Nat) (O : Nat → Int32) (V : Nat → Int32) : Nat → Nat → Int32
  | 0, i => V i
  | k + 1, i => if K i = 1 then ec_g (O i) (ec_E K f h O V k (f i)) (ec_E K f h O V k (h i)) else V i
def ec_Set (K : Nat → Int32) (f h : Nat → Nat) (O : Nat → Int32) (V : Nat → Int32) : Prop :=
  ∀ i, i < 12 → K i = 1 → V i = ec_g (O i) (V (f i)) (V (h i))
section ECS
variable {K : Nat → Int32} {f h rk : Nat → Nat} {O V : Nat → Int32}
theorem ec_E_stab (hf : ec_In f) (hh : ec_In h) (H : ec_Rk K f h rk) : ∀ k j i, i < 12 → rk i < k → rk i < j → ec_E K f h O V k i = ec_E K f h O V j i := by
  intro k
  induction k with
  | zero => intro j i _ z; omega
  | succ k ih =>
    intro j i hi hk hj
    cases j with
    | zero => omega
    | succ j =>
      simp only [ec_E]
      by_cases z : K i = 1
      · have a := H i hi z
        rw [if_pos z, if_pos z, ih j (f i) (hf i hi) (by omega) (by omega), ih j (h i) (hh i hi) (by omega) (by omega)]
      · rw [if_neg z, if_neg z]
theorem ec_st_n {W : Nat → Int32} {i j : Nat} (hj : j ≠ i ∨ K i ≠ 1) : ec_st K f h O W i j = W j := by
  unfold ec_st
  by_cases z : K i = 1
  · rw [if_pos z]
    rcases hj with e | e
    · exact pk_un e
    · exact absurd z e
  · rw [if_neg z]
theorem ec_st_y {W : Nat → Int32} {i : Nat} (z : K i = 1) : ec_st K f h O W i i = ec_g (O i) (W (f i)) (W (h i)) := by
  unfold ec_st
  rw [if_pos z]
  exact pk_us
/-- the round k has reached signal i -/
def ec_J (K : Nat → Int32) (rk : Nat → Nat) (e W : Nat → Int32) (k i : Nat) : Prop :=
  ∀ j, j < 12 → (K j ≠ 1 ∨ rk j < k ∨ (rk j < k + 1 ∧ j < i)) → W j = e j
theorem ec_J_st (hf : ec_In f) (hh : ec_In h) (H : ec_Rk K f h rk) {e W : Nat → Int32} (he : ec_Set K f h O e) {k i : Nat} (hi : i < 12)
    (J : ec_J K rk e W k i) : ec_J K rk e (ec_st K f h O W i) k (i + 1) := by
  intro j hj c
  by_cases z : j = i
  · subst z
    by_cases zk : K j = 1
    · have a := H j hj zk
      have hr : rk j < k + 1 := by
        rcases c with c | c | c
        · exact absurd zk c
        · omega
        · omega
      rw [ec_st_y zk, he j hj zk, J (f j) (hf j hj) (Or.inr (Or.inl (by omega))), J (h j) (hh j hj) (Or.inr (Or.inl (by omega)))]
    · rw [ec_st_n (Or.inr zk)]
      exact J j hj (Or.inl zk)
  · rw [ec_st_n (Or.inl z)]
    apply J j hj
    rcases c with c | c | c
    · exact Or.inl c
    · exact Or.inr (Or.inl c)
    · exact Or.inr (Or.inr ⟨c.1, by omega⟩)
theorem ec_J_sw (hf : ec_In f) (hh : ec_In h) (H : ec_Rk K f h rk) {e W : Nat → Int32} (he : ec_Set K f h O e) {k : Nat}
    (J : ec_J K rk e W k 0) : ∀ i, i ≤ 12 → ec_J K rk e (ec_sw K f h O W i) k i := by
  intro i
  induction i with
  | zero => exact fun _ => J
  | succ i ih =>
    intro hi
    exact ec_J_st hf hh H he (by omega) (ih (by omega))
theorem ec_J_se (hf : ec_In f) (hh : ec_In h) (H : ec_Rk K f h rk) {e W : Nat → Int32} (he : ec_Set K f h O e)
    (J : ec_J K rk e W 0 0) : ∀ k, ec_J K rk e (ec_se K f h O W k) k 0 := by
  intro k
  induction k with
  | zero => exact J
  | succ k ih =>
    have a := ec_J_sw hf hh H he ih 12 (by omega)
    intro j hj c
    apply a j hj
    rcases c with c | c | c
    · exact Or.inl c
    · exact Or.inr (Or.inr ⟨c, hj⟩)
    · omega
/-- twelve rounds settle the circuit -/
theorem ec_settled (hf : ec_In f) (hh : ec_In h) (H : ec_Rk K f h rk) (V : Nat → Int32) : ec_Set K f h O (ec_se K f h O V 12) := by
  obtain ⟨r, R, hr⟩ := ec_rk12 hf hh H
  have he : ec_Set K f h O (ec_E K f h O V 12) := by
    intro i hi hk
    have a := R i hi hk
    have b := hr i hi
    rw [ec_E_stab hf hh R 12 13 i hi (by omega) (by omega)]
    show (if K i = 1 then ec_g (O i) (ec_E K f h O V 12 (f i)) (ec_E K f h O V 12 (h i)) else V i) = _
    rw [if_pos hk]
  have J0 : ec_J K r (ec_E K f h O V 12) V 0 0 := by
    intro j hj c
    rcases c with c | c | c
    · show V j = (if K j = 1 then ec_g (O j) (ec_E K f h O V 11 (f j)) (ec_E K f h O V 11 (h j)) else V j)
      rw [if_neg c]
    · omega
    · omega
  have J := ec_J_se hf hh R he J0 12
  have eq : ∀ j, j < 12 → ec_se K f h O V 12 j = ec_E K f h O V 12 j := fun j hj => J j hj (Or.inr (Or.inl (hr j hj)))
  intro i hi hk
  rw [eq i hi, eq _ (hf i hi), eq _ (hh i hi)]
  exact he i hi hk
theorem ec_sw_n {j : Nat} (hj : K j ≠ 1) : ∀ i, ec_sw K f h O V i j = V j := by
  intro i
  induction i with
  | zero => rfl
  | succ i ih =>
    show ec_st K f h O (ec_sw K f h O V i) i j = V j
    rw [ec_st_n, ih]
    by_cases e : j = i
    · rw [← e]; exact Or.inr hj
    · exact Or.inl e
/-- only wires change -/
theorem ec_se_n {j : Nat} (hj : K j ≠ 1) : ∀ k, ec_se K f h O V k j = V j := by
  intro k
  induction k with
  | zero => rfl
  | succ k ih =>
    show ec_sw K f h O (ec_se K f h O V k) 12 j = V j
    rw [ec_sw_n hj, ih]
theorem ec_sw_fix (S : ec_Set K f h O V) : ∀ i, i ≤ 12 → ec_sw K f h O V i = V := by
  intro i
  induction i with
  | zero => exact fun _ => rfl
  | succ i ih =>
    intro hi
    show ec_st K f h O (ec_sw K f h O V i) i = V
    rw [ih (by omega)]
    unfold ec_st
    by_cases z : K i = 1
    · rw [if_pos z, ← S i (by omega) z]
      funext j
      by_cases e : j = i
      · rw [e]; exact pk_us
      · exact pk_un e
    · rw [if_neg z]
/-- a settled circuit stays as it is -/
theorem ec_se_fix (S : ec_Set K f h O V) : ∀ k, ec_se K f h O V k = V := by
  intro k
  induction k with
  | zero => rfl
  | succ k ih =>
    show ec_sw K f h O (ec_se K f h O V k) 12 = V
    rw [ih]
    exact ec_sw_fix S 12 (by omega)
end ECS
/-! ===== values lie in 0 .. 15 ===== -/
def ec_V15 (V : Nat → Int32) : Prop := ∀ i, i < 12 → ∃ n, n < 16 ∧ V i = nI n
theorem ec_g15t0 : ∀ p, p < 16 → ∀ q, q < 16 → ∃ n, n < 16 ∧ nI p &&& nI q = nI n := by decide +kernel
theorem ec_g15t1 : ∀ p, p < 16 → ∀ q, q < 16 → ∃ n, n < 16 ∧ nI p ||| nI q = nI n := by decide +kernel
theorem ec_g15t2 : ∀ p, p < 16 → ∀ q, q < 16 → ∃ n, n < 16 ∧ nI p ^^^ nI q = nI n := by decide +kernel
theorem ec_g15t3 : ∀ p, p < 16 → ∀ q, q < 16 → ∃ n, n < 16 ∧ (nI p + nI q) &&& 15 = nI n := by decide +kernel
theorem ec_g15t4 : ∀ p, p < 16 → ∀ q, q < 16 → ∃ n, n < 16 ∧ (nI p - nI q) &&& 15 = nI n := by decide +kernel
theorem ec_g15t7 : ∀ p, p < 16 → ∃ n, n < 16 ∧ 15 - nI p = nI n := by decide +kernel
theorem ec_g15 (o : Int32) {x y : Int32} (hx : ∃ n, n < 16 ∧ x = nI n) (hy : ∃ n, n < 16 ∧ y = nI n) : ∃ n, n < 16 ∧ ec_g o x y = nI n := by
  obtain ⟨p, hp, rfl⟩ := hx
  obtain ⟨q, hq, rfl⟩ := hy
  unfold ec_g
  split
  · exact ec_g15t0 p hp q hq
  split
  · exact ec_g15t1 p hp q hq
  split
  · exact ec_g15t2 p hp q hq
  split
  · exact ec_g15t3 p hp q hq
  split
  · exact ec_g15t4 p hp q hq
  split
  · split
    · exact ⟨0, by omega, rfl⟩
    · exact ⟨1, by omega, rfl⟩
  split
  · exact ⟨p, hp, rfl⟩
  split
  · exact ec_g15t7 p hp
  split
  · exact ⟨q, hq, rfl⟩
  · exact ec_g15t7 q hq
theorem ec_V15_upd {V : Nat → Int32} {i : Nat} {x : Int32} (h : ec_V15 V) (hx : ∃ n, n < 16 ∧ x = nI n) : ec_V15 (upd V i x) := by
  intro j hj
  by_cases e : j = i
  · rw [e, pk_us]; exact hx
  · rw [pk_un e]; exact h j hj
theorem ec_V15_sw {K : Nat → Int32} {f h : Nat → Nat} {O V : Nat → Int32} (hf : ec_In f) (hh : ec_In h) (H : ec_V15 V) : ∀ i, i ≤ 12 → ec_V15 (ec_sw K f h O V i) := by
  intro i
  induction i with
  | zero => exact fun _ => H
  | succ i ih =>
    intro hi
    have a := ih (by omega)
    show ec_V15 (ec_st K f h O (ec_sw K f h O V i) i)
    unfold ec_st
    by_cases z : K i = 1
    · rw [if_pos z]
      exact ec_V15_upd a (ec_g15 _ (a _ (hf i (by omega))) (a _ (hh i (by omega))))
    · rw [if_neg z]; exact a
theorem ec_V15_se {K : Nat → Int32} {f h : Nat → Nat} {O V : Nat → Int32} (hf : ec_In f) (hh : ec_In h) (H : ec_V15 V) : ∀ k, ec_V15 (ec_se K f h O V k) := by
  intro k
  induction k with
  | zero => exact H
  | succ k ih => exact ec_V15_sw hf hh ih 12 (by omega)
