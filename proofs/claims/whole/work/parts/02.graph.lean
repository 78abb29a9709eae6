/-! ===== the graph of the wires: K i = 1 says that i is a wire, f i and h i are what it reads ===== -/
/-- the index that an array of signals holds -/
def ec_ix (A : Nat → Int32) (i : Nat) : Nat := (A i).toNatClampNeg
def ec_In (f : Nat → Nat) : Prop := ∀ i, i < 12 → f i < 12
/-- a rank: every wire stands above what it reads -/
def ec_Rk (K : Nat → Int32) (f h rk : Nat → Nat) : Prop := ∀ i, i < 12 → K i = 1 → rk (f i) < rk i ∧ rk (h i) < rk i
theorem ec_rk12 {K : Nat → Int32} {f h rk : Nat → Nat} (hf : ec_In f) (hh : ec_In h) (H : ec_Rk K f h rk) : ∃ r : Nat → Nat, ec_Rk K f h r ∧ ∀ i, i < 12 → r i < 12 := by
  have key : ∀ i j, i < 12 → j < 12 → rk j < rk i → ec_cnt (fun t => decide (rk t < rk j)) 12 < ec_cnt (fun t => decide (rk t < rk i)) 12 := by
    intro i j hi hj hlt
    refine ec_cnt_lt 12 (fun t _ z => ?_) j hj ?_ ?_
    · simp only [decide_eq_true_eq] at z ⊢
      omega
    · simp
    · simp only [decide_eq_true_eq]
      exact hlt
  refine ⟨fun i => ec_cnt (fun t => decide (rk t < rk i)) 12, ?_, ?_⟩
  · intro i hi hk
    have a := H i hi hk
    exact ⟨key i (f i) hi (hf i hi) a.1, key i (h i) hi (hh i hi) a.2⟩
  · intro i hi
    have a : ec_cnt (fun t => decide (rk t < rk i)) 12 < ec_cnt (fun _ => true) 12 := by
      refine ec_cnt_lt 12 (fun _ _ _ => rfl) i hi ?_ rfl
      simp
    have b := ec_cnt_n (fun _ => true) 12
    show ec_cnt (fun t => decide (rk t < rk i)) 12 < 12
    omega
/-- i hangs on t by a chain of at most k wires -/
def ec_F (K : Nat → Int32) (f h : Nat → Nat) (t : Nat) : Nat → Nat → Prop
  | 0, _ => False
  | k + 1, i => K i = 1 ∧ ((f i = t ∨ ec_F K f h t k (f i)) ∨ (h i = t ∨ ec_F K f h t k (h i)))
section ECF
variable {K : Nat → Int32} {f h rk : Nat → Nat} {t : Nat}
theorem ec_F_or {P Q : Nat → Prop} {a b t : Nat} (m : ∀ i, P i → Q i) (z : (a = t ∨ P a) ∨ (b = t ∨ P b)) : (a = t ∨ Q a) ∨ (b = t ∨ Q b) := by
  rcases z with (z | z) | (z | z)
  · exact Or.inl (Or.inl z)
  · exact Or.inl (Or.inr (m _ z))
  · exact Or.inr (Or.inl z)
  · exact Or.inr (Or.inr (m _ z))
theorem ec_F_s : ∀ k i, ec_F K f h t k i → ec_F K f h t (k + 1) i := by
  intro k
  induction k with
  | zero => intro i z; exact absurd z (by simp only [ec_F]; exact fun z => z)
  | succ k ih =>
    intro i z
    exact ⟨z.1, ec_F_or ih z.2⟩
theorem ec_F_le {k j : Nat} (hkj : k ≤ j) {i : Nat} (z : ec_F K f h t k i) : ec_F K f h t j i := by
  obtain ⟨d, rfl⟩ : ∃ d, j = k + d := ⟨j - k, by omega⟩
  clear hkj
  induction d with
  | zero => exact z
  | succ d ih => exact ec_F_s _ _ ih
theorem ec_F_rk (hf : ec_In f) (hh : ec_In h) (H : ec_Rk K f h rk) : ∀ k i, i < 12 → ec_F K f h t k i → rk t < rk i := by
  intro k
  induction k with
  | zero => intro i _ z; exact z.elim
  | succ k ih =>
    intro i hi z
    have a := H i hi z.1
    rcases z.2 with (e | e) | (e | e)
    · rw [← e]; exact a.1
    · have := ih _ (hf i hi) e; omega
    · rw [← e]; exact a.2
    · have := ih _ (hh i hi) e; omega
theorem ec_F_stab (hf : ec_In f) (hh : ec_In h) (H : ec_Rk K f h rk) : ∀ j k i, i < 12 → rk i < j → ec_F K f h t k i → ec_F K f h t j i := by
  intro j
  induction j with
  | zero => intro k i _ z; omega
  | succ j ih =>
    intro k i hi hr z
    cases k with
    | zero => exact z.elim
    | succ k =>
      have a := H i hi z.1
      refine ⟨z.1, ?_⟩
      rcases z.2 with (e | e) | (e | e)
      · exact Or.inl (Or.inl e)
      · exact Or.inl (Or.inr (ih k _ (hf i hi) (by omega) e))
      · exact Or.inr (Or.inl e)
      · exact Or.inr (Or.inr (ih k _ (hh i hi) (by omega) e))
theorem ec_F_trans {m : Nat} : ∀ j k i, ec_F K f h m j i → ec_F K f h t k m → ec_F K f h t (j + k) i := by
  intro j
  induction j with
  | zero => intro k i z; exact z.elim
  | succ j ih =>
    intro k i z y
    rw [show j + 1 + k = (j + k) + 1 by omega]
    refine ⟨z.1, ?_⟩
    rcases z.2 with (e | e) | (e | e)
    · exact Or.inl (Or.inr (by rw [e]; exact ec_F_le (by omega) y))
    · exact Or.inl (Or.inr (ih k _ e y))
    · exact Or.inr (Or.inr (by rw [e]; exact ec_F_le (by omega) y))
    · exact Or.inr (Or.inr (ih k _ e y))
end ECF
/-! ===== s gets a new formula (a, b) ===== -/
section ECN
variable {K K' : Nat → Int32} {f h f' h' rk : Nat → Nat} {s a b : Nat}
theorem ec_new_F (hK : ∀ i, i ≠ s → K' i = K i) (hf' : ∀ i, i ≠ s → f' i = f i) (hh' : ∀ i, i ≠ s → h' i = h i)
    (hf : ec_In f) (hh : ec_In h) (H : ec_Rk K f h rk) : ∀ k i, i < 12 → ec_F K f h s k i → ec_F K' f' h' s k i := by
  intro k
  induction k with
  | zero => intro i _ z; exact z
  | succ k ih =>
    intro i hi z
    have n : i ≠ s := by
      intro e
      have := ec_F_rk hf hh H _ i hi z
      rw [e] at this
      omega
    refine ⟨by rw [hK i n]; exact z.1, ?_⟩
    rw [hf' i n, hh' i n]
    rcases z.2 with (e | e) | (e | e)
    · exact Or.inl (Or.inl e)
    · exact Or.inl (Or.inr (ih _ (hf i hi) e))
    · exact Or.inr (Or.inl e)
    · exact Or.inr (Or.inr (ih _ (hh i hi) e))
theorem ec_circ1 (hK : ∀ i, i ≠ s → K' i = K i) (hf' : ∀ i, i ≠ s → f' i = f i) (hh' : ∀ i, i ≠ s → h' i = h i)
    (hKs : K' s = 1) (hfs : f' s = a) (hhs : h' s = b) (ha : a < 12) (hb : b < 12)
    (hf : ec_In f) (hh : ec_In h) (H : ec_Rk K f h rk) (z : (a = s ∨ ec_F K f h s 12 a) ∨ (b = s ∨ ec_F K f h s 12 b)) : ec_F K' f' h' s 13 s := by
  have n := ec_new_F hK hf' hh' hf hh H 12
  refine ⟨hKs, ?_⟩
  rw [hfs, hhs]
  rcases z with (e | e) | (e | e)
  · exact Or.inl (Or.inl e)
  · exact Or.inl (Or.inr (n _ ha e))
  · exact Or.inr (Or.inl e)
  · exact Or.inr (Or.inr (n _ hb e))
theorem ec_circ2 (hK : ∀ i, i ≠ s → K' i = K i) (hf' : ∀ i, i ≠ s → f' i = f i) (hh' : ∀ i, i ≠ s → h' i = h i)
    (hfs : f' s = a) (hhs : h' s = b) (ha : a < 12) (hb : b < 12)
    (hf : ec_In f) (hh : ec_In h) (H : ec_Rk K f h rk) (z : ¬ ((a = s ∨ ec_F K f h s 12 a) ∨ (b = s ∨ ec_F K f h s 12 b))) : ∃ r, ec_Rk K' f' h' r := by
  classical
  obtain ⟨r, R, hr⟩ := ec_rk12 hf hh H
  have cl : ∀ i, i < 12 → K i = 1 → ∀ t, (f i = t ∨ h i = t) → (t = s ∨ ec_F K f h s 12 t) → ec_F K f h s 12 i := by
    intro i hi hk t ht zt
    have y : ec_F K f h s 13 i := by
      refine ⟨hk, ?_⟩
      rcases ht with e | e
      · rw [e]; exact Or.inl zt
      · rw [e]; exact Or.inr zt
    exact ec_F_stab hf hh R 12 13 i hi (hr i hi) y
  refine ⟨fun i => r i + (if (i = s ∨ ec_F K f h s 12 i) then 12 else 0), ?_⟩
  intro i hi hk
  by_cases e : i = s
  · subst e
    rw [hfs, hhs]
    have na : ¬ (a = i ∨ ec_F K f h i 12 a) := fun y => z (Or.inl y)
    have nb : ¬ (b = i ∨ ec_F K f h i 12 b) := fun y => z (Or.inr y)
    have ra := hr a ha
    have rb := hr b hb
    show r a + _ < r i + _ ∧ r b + _ < r i + _
    rw [if_neg na, if_neg nb, if_pos (Or.inl rfl)]
    omega
  · rw [hf' i e, hh' i e]
    rw [hK i e] at hk
    have rr := R i hi hk
    have one : ∀ t, (f i = t ∨ h i = t) → r t < r i → r t + (if (t = s ∨ ec_F K f h s 12 t) then 12 else 0) < r i + (if (i = s ∨ ec_F K f h s 12 i) then 12 else 0) := by
      intro t ht hlt
      by_cases y : t = s ∨ ec_F K f h s 12 t
      · rw [if_pos y, if_pos (Or.inr (cl i hi hk t ht y))]
        omega
      · rw [if_neg y]
        split <;> omega
    exact ⟨one _ (Or.inl rfl) rr.1, one _ (Or.inr rfl) rr.2⟩
/-- fewer wires: the rank stays -/
theorem ec_Rk_sub (hK : ∀ i, i ≠ s → K' i = K i) (hf' : ∀ i, i ≠ s → f' i = f i) (hh' : ∀ i, i ≠ s → h' i = h i) (hKs : K' s ≠ 1)
    (H : ec_Rk K f h rk) : ec_Rk K' f' h' rk := by
  intro i hi hk
  by_cases e : i = s
  · rw [e] at hk; exact absurd hk hKs
  · rw [hf' i e, hh' i e]
    rw [hK i e] at hk
    exact H i hi hk
end ECN
