/-! ===== an input changes ===== -/
def ec_ck (K : Nat → Int32) (f h : Nat → Nat) (O C : Nat → Int32) (c : Int32) (V : Nat → Int32) : Nat → (Nat → Int32)
  | 0 => V
  | i + 1 => if K i = 2 ∧ C i = c then upd (ec_ck K f h O C c V i) i (ec_g (O i) (V (f i)) (V (h i))) else ec_ck K f h O C c V i
/-- does the clock rise -/
def ec_up (a x : Int32) : Bool := decide (a &&& 1 = 0) && decide (x &&& 1 = 1)
def ec_cv (K : Nat → Int32) (f h : Nat → Nat) (O C : Nat → Int32) (s : Nat) (x : Int32) (V : Nat → Int32) : Nat → Int32 :=
  if ec_up (V s) x = true then ec_ck K f h O C (nI s) V 12 else V
def ec_ch (K : Nat → Int32) (f h : Nat → Nat) (O C : Nat → Int32) (s : Nat) (x : Int32) (V : Nat → Int32) : Nat → Int32 :=
  ec_se K f h O (upd (ec_cv K f h O C s x V) s x) 12
/-- how many registers take another value -/
def ec_rc (K : Nat → Int32) (f h : Nat → Nat) (O C : Nat → Int32) (s : Nat) (x : Int32) (V : Nat → Int32) : Nat :=
  ec_cnt (fun r => ec_up (V s) x && decide (K r = 2 ∧ C r = nI s) && !decide (V r = ec_g (O r) (V (f r)) (V (h r)))) 12
section ECC
variable {K : Nat → Int32} {f h rk : Nat → Nat} {O C V : Nat → Int32} {c : Int32}
theorem ec_ck_hi : ∀ i j, i ≤ j → ec_ck K f h O C c V i j = V j := by
  intro i
  induction i with
  | zero => exact fun _ _ => rfl
  | succ i ih =>
    intro j hj
    simp only [ec_ck]
    split
    · rw [pk_un (by omega)]; exact ih j (by omega)
    · exact ih j (by omega)
theorem ec_ck_lo : ∀ i j, j < i → ec_ck K f h O C c V i j = if K j = 2 ∧ C j = c then ec_g (O j) (V (f j)) (V (h j)) else V j := by
  intro i
  induction i with
  | zero => intro j z; omega
  | succ i ih =>
    intro j hj
    simp only [ec_ck]
    by_cases e : j = i
    · subst e
      by_cases z : K j = 2 ∧ C j = c
      · rw [if_pos z, if_pos z]; exact pk_us
      · rw [if_neg z, if_neg z]; exact ec_ck_hi j j (Nat.le_refl j)
    · split
      · rw [pk_un e]; exact ih j (by omega)
      · exact ih j (by omega)
theorem ec_ck15 (hf : ec_In f) (hh : ec_In h) (H : ec_V15 V) : ∀ i, i ≤ 12 → ec_V15 (ec_ck K f h O C c V i) := by
  intro i
  induction i with
  | zero => exact fun _ => H
  | succ i ih =>
    intro hi
    simp only [ec_ck]
    split
    · exact ec_V15_upd (ih (by omega)) (ec_g15 _ (H _ (hf i (by omega))) (H _ (hh i (by omega))))
    · exact ih (by omega)
theorem ec_cv15 (hf : ec_In f) (hh : ec_In h) (H : ec_V15 V) {s : Nat} {x : Int32} : ec_V15 (ec_cv K f h O C s x V) := by
  unfold ec_cv
  split
  · exact ec_ck15 hf hh H 12 (by omega)
  · exact H
theorem ec_ch15 (hf : ec_In f) (hh : ec_In h) (H : ec_V15 V) {s : Nat} {x : Int32} (hx : ∃ n, n < 16 ∧ x = nI n) : ec_V15 (ec_ch K f h O C s x V) :=
  ec_V15_se hf hh (ec_V15_upd (ec_cv15 hf hh H) hx) 12
/-- what a register holds afterwards -/
theorem ec_ch_reg {s : Nat} {x : Int32} (hs : K s = 0) {r : Nat} (hr : r < 12) (hk : K r = 2) :
    ec_ch K f h O C s x V r = if ec_up (V s) x = true ∧ C r = nI s then ec_g (O r) (V (f r)) (V (h r)) else V r := by
  have n1 : K r ≠ 1 := by rw [hk]; decide
  have ns : r ≠ s := by
    intro e
    rw [e, hs] at hk
    exact absurd hk (by decide)
  unfold ec_ch
  rw [ec_se_n n1, pk_un ns]
  unfold ec_cv
  by_cases u : ec_up (V s) x = true
  · rw [if_pos u, ec_ck_lo 12 r hr]
    by_cases z : C r = nI s
    · rw [if_pos ⟨hk, z⟩, if_pos ⟨u, z⟩]
    · rw [if_neg (fun y => z y.2), if_neg (fun y => z y.2)]
  · rw [if_neg u, if_neg (fun y => u y.1)]
theorem ec_rc_x {s : Nat} {x : Int32} (hs : K s = 0) {bx : Nat → Int32} (hb : ∀ j, j < 12 → bx j = V j) :
    ec_cnt (fun r => decide (K r = 2) && !decide (ec_ch K f h O C s x V r = bx r)) 12 = ec_rc K f h O C s x V := by
  unfold ec_rc
  apply ec_cnt_eq
  intro r hr
  rw [hb r hr]
  by_cases hk : K r = 2
  · rw [ec_ch_reg hs hr hk]
    by_cases u : ec_up (V s) x = true
    · by_cases z : C r = nI s
      · rw [if_pos ⟨u, z⟩, u]
        simp only [hk, z, decide_true, Bool.true_and, and_self]
        rw [eq_comm]
        simp only [eq_comm]
      · rw [if_neg (fun y => z y.2)]
        simp [z]
    · rw [if_neg (fun y => u y.1)]
      simp [u]
  · simp [hk]
end ECC
theorem ec_par : ∀ m, m < 16 → ((nI m - nI m / 2 * 2 = 0 ↔ nI m &&& 1 = 0) ∧ (nI m - nI m / 2 * 2 = 1 ↔ nI m &&& 1 = 1)) := by decide +kernel
/-! ===== depth ===== -/
def ec_D (K : Nat → Int32) (f h : Nat → Nat) : Nat → Nat → Nat
  | 0, _ => 0
  | k + 1, i => if K i = 1 then max (ec_D K f h k (f i)) (ec_D K f h k (h i)) + 1 else 0
def ec_Dep (K : Nat → Int32) (f h d : Nat → Nat) : Prop :=
  (∀ i, i < 12 → d i ≤ 12) ∧ (∀ i, i < 12 → K i = 1 → d i = max (d (f i)) (d (h i)) + 1) ∧ (∀ i, i < 12 → K i ≠ 1 → d i = 0)
def ec_mx (d : Nat → Nat) : Nat → Nat
  | 0 => 0
  | n + 1 => max (ec_mx d n) (d n)
theorem ec_mx_ge (d : Nat → Nat) : ∀ n i, i < n → d i ≤ ec_mx d n := by
  intro n
  induction n with
  | zero => intro i z; omega
  | succ n ih =>
    intro i hi
    simp only [ec_mx]
    by_cases e : i = n
    · rw [e]; omega
    · have := ih i (by omega); omega
theorem ec_mx_le (d : Nat → Nat) {b : Nat} : ∀ n, (∀ i, i < n → d i ≤ b) → ec_mx d n ≤ b := by
  intro n
  induction n with
  | zero => exact fun _ => Nat.zero_le b
  | succ n ih =>
    intro H
    have a := ih (fun i hi => H i (by omega))
    have c := H n (by omega)
    simp only [ec_mx]
    omega
section ECD
variable {K : Nat → Int32} {f h rk : Nat → Nat}
theorem ec_D_le : ∀ k i, ec_D K f h k i ≤ k := by
  intro k
  induction k with
  | zero => exact fun _ => Nat.le_refl 0
  | succ k ih =>
    intro i
    have a := ih (f i)
    have b := ih (h i)
    simp only [ec_D]
    split <;> omega
theorem ec_D_stab (hf : ec_In f) (hh : ec_In h) (H : ec_Rk K f h rk) : ∀ k j i, i < 12 → rk i < k → rk i < j → ec_D K f h k i = ec_D K f h j i := by
  intro k
  induction k with
  | zero => intro j i _ z; omega
  | succ k ih =>
    intro j i hi hk hj
    cases j with
    | zero => omega
    | succ j =>
      simp only [ec_D]
      by_cases z : K i = 1
      · have a := H i hi z
        rw [if_pos z, if_pos z, ih j (f i) (hf i hi) (by omega) (by omega), ih j (h i) (hh i hi) (by omega) (by omega)]
      · rw [if_neg z, if_neg z]
theorem ec_dep (hf : ec_In f) (hh : ec_In h) (H : ec_Rk K f h rk) : ec_Dep K f h (ec_D K f h 12) := by
  obtain ⟨r, R, hr⟩ := ec_rk12 hf hh H
  refine ⟨fun i _ => ec_D_le 12 i, fun i hi hk => ?_, fun i hi hk => ?_⟩
  · have a := hr i hi
    rw [ec_D_stab hf hh R 12 13 i hi (by omega) (by omega)]
    show (if K i = 1 then max (ec_D K f h 12 (f i)) (ec_D K f h 12 (h i)) + 1 else 0) = _
    rw [if_pos hk]
  · show (if K i = 1 then max (ec_D K f h 11 (f i)) (ec_D K f h 11 (h i)) + 1 else 0) = 0
    rw [if_neg hk]
/-- Y's table of lengths in round k at signal i: q, and the greatest seen: m -/
def ec_Q (K : Nat → Int32) (rk d q : Nat → Nat) (m k i : Nat) : Prop :=
  (∀ j, j < 12 → q j ≤ d j ∧ q j ≤ m ∧ ((K j ≠ 1 ∨ rk j < k ∨ (rk j < k + 1 ∧ j < i)) → q j = d j)) ∧ m ≤ ec_mx d 12
theorem ec_Q_y (hf : ec_In f) (hh : ec_In h) (H : ec_Rk K f h rk) {d q : Nat → Nat} {m k i : Nat} (D : ec_Dep K f h d) (hi : i < 12) (hk : K i = 1)
    (Q : ec_Q K rk d q m k i) {z m' : Nat} (hz : z = max (q (f i)) (q (h i)) + 1) (hm : m' = max m z) :
    ec_Q K rk d (fun j => if j = i then z else q j) m' k (i + 1) := by
  have df := Q.1 (f i) (hf i hi)
  have dh := Q.1 (h i) (hh i hi)
  have e := D.2.1 i hi hk
  have a := H i hi hk
  have zd : z ≤ d i := by omega
  have g := ec_mx_ge d 12 i hi
  refine ⟨fun j hj => ?_, by have := Q.2; omega⟩
  dsimp only
  by_cases ej : j = i
  · subst ej
    rw [if_pos rfl]
    refine ⟨zd, by omega, fun c => ?_⟩
    have hr : rk j < k + 1 := by
      rcases c with c | c | c
      · exact absurd hk c
      · omega
      · omega
    have := df.2.2 (Or.inr (Or.inl (by omega)))
    have := dh.2.2 (Or.inr (Or.inl (by omega)))
    omega
  · rw [if_neg ej]
    have b := Q.1 j hj
    refine ⟨b.1, by omega, fun c => b.2.2 ?_⟩
    rcases c with c | c | c
    · exact Or.inl c
    · exact Or.inr (Or.inl c)
    · exact Or.inr (Or.inr ⟨c.1, by omega⟩)
theorem ec_Q_n {d q : Nat → Nat} {m k i : Nat} (hk : K i ≠ 1) (Q : ec_Q K rk d q m k i) : ec_Q K rk d q m k (i + 1) := by
  refine ⟨fun j hj => ?_, Q.2⟩
  have b := Q.1 j hj
  refine ⟨b.1, b.2.1, fun c => b.2.2 ?_⟩
  rcases c with c | c | c
  · exact Or.inl c
  · exact Or.inr (Or.inl c)
  · by_cases e : j = i
    · rw [e]; exact Or.inl hk
    · exact Or.inr (Or.inr ⟨c.1, by omega⟩)
theorem ec_Q_r {d q : Nat → Nat} {m k : Nat} (Q : ec_Q K rk d q m k 12) : ec_Q K rk d q m (k + 1) 0 := by
  refine ⟨fun j hj => ?_, Q.2⟩
  have b := Q.1 j hj
  refine ⟨b.1, b.2.1, fun c => b.2.2 ?_⟩
  rcases c with c | c | c
  · exact Or.inl c
  · exact Or.inr (Or.inr ⟨c, hj⟩)
  · omega
theorem ec_Q_e {d q : Nat → Nat} {m : Nat} (hr : ∀ i, i < 12 → rk i < 12) (Q : ec_Q K rk d q m 12 0) : m = ec_mx d 12 := by
  have a : ec_mx d 12 ≤ m := ec_mx_le d 12 (fun i hi => by
    have b := Q.1 i hi
    have := b.2.2 (Or.inr (Or.inl (hr i hi)))
    omega)
  have := Q.2
  omega
end ECD
