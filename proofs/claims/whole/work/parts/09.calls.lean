/-! ===== the relation, and what both sides do alike ===== -/
def ec_Inv (K V O A B : Nat → Int32) : Prop :=
  ec_Ok A ∧ ec_Ok B ∧ ec_V15 V ∧ ec_Set K (ec_ix A) (ec_ix B) O V ∧ ∃ rk, ec_Rk K (ec_ix A) (ec_ix B) rk
/-- the same kinds, formulas, clocks and values, settled and without a circle -/
def i_Rel (_ : Nat) (u : SX) (v : SY) : Prop :=
  ∃ K V O A B C bx bY on : Nat → Int32, u = (K, V, O, A, B, C, bx) ∧ v = (K, O, A, B, C, V, bY, on) ∧ ec_Inv K V O A B
theorem ec_rel {k : Nat} {K V O A B C bx bY on : Nat → Int32} (I : ec_Inv K V O A B) : i_Rel k (K, V, O, A, B, C, bx) (K, O, A, B, C, V, bY, on) :=
  ⟨K, V, O, A, B, C, bx, bY, on, rfl, rfl, I⟩
def ec_bs (x : Int32) : Prop := x < 0 ∨ (12 : Int32) ≤ x
theorem ec_six (x : Int32) : ec_bs x ∨ ∃ j, j < 12 ∧ x = nI j := by
  rcases pk_ix x (n := 12) (by decide) with h | h | h
  · exact Or.inl (Or.inl h)
  · exact Or.inl (Or.inr h)
  · exact Or.inr h
theorem ec_nbs {j : Nat} (hj : j < 12) : ¬ ec_bs (nI j) := by
  rintro (h | h)
  · exact nI_pos (by omega) h
  · exact ec_ge hj h
theorem ec_xsig {post : Int32 → Prop} (x : Int32) (H0 : ec_bs x → post 0) (H1 : ∀ j, j < 12 → x = nI j → post 1) : wpX_isSignal post x := by
  rcases ec_six x with b | ⟨j, hj, e⟩
  · rcases id b with h | h
    · exact br_t h (H0 b)
    · by_cases n : x < 0
      · exact br_t n (H0 b)
      · exact br_f n (br_t h (H0 b))
  · have q := H1 j hj e
    subst e
    exact br_f (nI_pos (by omega)) (br_f (ec_ge hj) q)
def ec_bo (x : Int32) : Prop := x < 0 ∨ (8 : Int32) < x
theorem ec_xop {post : Int32 → Prop} (x : Int32) (H0 : ec_bo x → post 0) (H1 : ¬ x < 0 → ¬ (8 : Int32) < x → post 1) : wpX_isOperation post x :=
  br_c (fun h => H0 (Or.inl h)) fun h => br_c (fun g => H0 (Or.inr g)) fun g => H1 h g
section ECO
variable {K V O A B C bx bY on : Nat → Int32}
theorem ec_ysig {post : Int32 → Prop} (x : Int32) (H0 : ec_bs x → post 0) (H1 : ∀ j, j < 12 → x = nI j → post 1) : wpY_isSignal post (K, O, A, B, C, V, bY, on) x := by
  rcases ec_six x with b | ⟨j, hj, e⟩
  · by_cases n : x < 0
    · exact br_t n (H0 b)
    · obtain ⟨m, hm, rfl⟩ := nI_of n
      have h12 : 12 ≤ m := by
        rcases id b with h | h
        · exact absurd h n
        · by_cases c : m < 12
          · exact absurd h (ec_ge c)
          · omega
      exact br_f n (br_t (nI_lt (a := 11) (by omega) hm) (H0 b))
  · have q := H1 j hj e
    subst e
    exact br_f (nI_pos (by omega)) (br_f (nI_nlt (a := 11) (by omega) (by decide)) q)
/-- is s a clock: one answer on both sides -/
theorem ec_clk2 (s : Int32) : ∀ d i, i + d = 12 → ∃ r : Int32, (∀ post : Int32 → Prop, post r → wX_isClock_2 post s K V O A B C bx (d + 1) (nI i)) ∧ (∀ post : Int32 → Prop, post r → wY_isClock_2 post s K O A B C V bY on (d + 1) (nI i)) := by
  intro d
  induction d with
  | zero =>
    intro i hi
    obtain rfl : i = 12 := by omega
    exact ⟨0, fun _ hp => br_t ec_12 hp, fun _ hp => br_t ec_12 hp⟩
  | succ d ih =>
    intro i hi
    have hi' : i < 12 := by omega
    have I := ec_in hi'
    obtain ⟨r, hX, hY⟩ := ih (i + 1) (by omega)
    by_cases z : K (nI i).toNatClampNeg = 2
    · by_cases y : C (nI i).toNatClampNeg = s
      · exact ⟨1, fun _ hp => br_f (ec_ge hi') ⟨I, br_t z ⟨I, br_t y hp⟩⟩, fun _ hp => br_f (ec_ge hi') ⟨I, br_t z ⟨I, br_t y hp⟩⟩⟩
      · exact ⟨r, fun post hp => br_f (ec_ge hi') ⟨I, br_t z ⟨I, br_f y (nm_r (nI_1 i) (hX post hp))⟩⟩, fun post hp => br_f (ec_ge hi') ⟨I, br_t z ⟨I, br_f y (nm_r (nI_1 i) (hY post hp))⟩⟩⟩
    · exact ⟨r, fun post hp => br_f (ec_ge hi') ⟨I, br_f z (nm_r (nI_1 i) (hX post hp))⟩, fun post hp => br_f (ec_ge hi') ⟨I, br_f z (nm_r (nI_1 i) (hY post hp))⟩⟩
theorem ec_clk (s : Int32) (K V O A B C bx bY on : Nat → Int32) : ∃ r : Int32, (∀ post : Int32 → Prop, post r → wpX_isClock post (K, V, O, A, B, C, bx) s) ∧ (∀ post : Int32 → Prop, post r → wpY_isClock post (K, O, A, B, C, V, bY, on) s) := by
  obtain ⟨r, hX, hY⟩ := ec_clk2 (K := K) (V := V) (O := O) (A := A) (B := B) (C := C) (bx := bx) (bY := bY) (on := on) s 12 0 rfl
  exact ⟨r, fun post hp => ⟨13, hX post hp⟩, fun post hp => ⟨13, hY post hp⟩⟩
/-- may the input be set: one answer on both sides -/
theorem ec_stat (v1 v2 : Int32) (K V O A B C bx bY on : Nat → Int32) : ∃ r : Int32, (∀ post : Int32 → Prop, post r → wpX_refusalOfSetting post (K, V, O, A, B, C, bx) v1 v2) ∧ (∀ post : Int32 → Prop, post r → wpY_status post (K, O, A, B, C, V, bY, on) v1 v2) ∧
    ((r = 0 ∧ ∃ s x, s < 12 ∧ v1 = nI s ∧ x < 16 ∧ v2 = nI x ∧ K s = 0) ∨ (¬ r = 0 ∧ ¬ 0 ≤ r)) := by
  rcases ec_six v1 with b | ⟨s, hs, rfl⟩
  · refine ⟨-1, fun post hp => ?_, fun post hp => ?_, Or.inr ⟨by decide, by decide⟩⟩
    · unfold wpX_refusalOfSetting; refine ec_xsig v1 (fun _ => br_t rfl hp) (fun j hj e => ?_)
      rw [e] at b
      exact absurd b (ec_nbs hj)
    · unfold wpY_status; refine ec_ysig v1 (fun _ => br_t rfl hp) (fun j hj e => ?_)
      rw [e] at b
      exact absurd b (ec_nbs hj)
  · have I := ec_in hs
    by_cases n : v2 < 0
    · refine ⟨-1, fun post hp => ?_, fun post hp => ?_, Or.inr ⟨by decide, by decide⟩⟩
      · unfold wpX_refusalOfSetting; exact ec_xsig _ (fun _ => br_t rfl hp) (fun j hj e => br_f (by decide) (br_t n hp))
      · unfold wpY_status; exact ec_ysig _ (fun _ => br_t rfl hp) (fun j hj e => br_f (by decide) (br_t n hp))
    · by_cases m : v2 ≤ 15
      · by_cases z : K (nI s).toNatClampNeg = 0
        · refine ⟨0, fun post hp => ?_, fun post hp => ?_, Or.inl ⟨rfl, ?_⟩⟩
          · unfold wpX_refusalOfSetting; exact ec_xsig _ (fun c => absurd c (ec_nbs hs)) (fun j hj e => br_f (by decide) (br_f n (br_t m ⟨I, br_t z hp⟩)))
          · unfold wpY_status; exact ec_ysig _ (fun c => absurd c (ec_nbs hs)) (fun j hj e => br_f (by decide) (br_f n (br_t m ⟨I, br_t z hp⟩)))
          · rw [ec_cl hs] at z
            obtain ⟨x, hx, rfl⟩ := nI_of2 (n := 15) (by decide) n m
            exact ⟨s, x, hs, rfl, by omega, rfl, z⟩
        · refine ⟨-3, fun post hp => ?_, fun post hp => ?_, Or.inr ⟨by decide, by decide⟩⟩
          · unfold wpX_refusalOfSetting; exact ec_xsig _ (fun c => absurd c (ec_nbs hs)) (fun j hj e => br_f (by decide) (br_f n (br_t m ⟨I, br_f z hp⟩)))
          · unfold wpY_status; exact ec_ysig _ (fun c => absurd c (ec_nbs hs)) (fun j hj e => br_f (by decide) (br_f n (br_t m ⟨I, br_f z hp⟩)))
      · refine ⟨-1, fun post hp => ?_, fun post hp => ?_, Or.inr ⟨by decide, by decide⟩⟩
        · unfold wpX_refusalOfSetting; exact ec_xsig _ (fun _ => br_t rfl hp) (fun j hj e => br_f (by decide) (br_f n (br_f m hp)))
        · unfold wpY_status; exact ec_ysig _ (fun _ => br_t rfl hp) (fun j hj e => br_f (by decide) (br_f n (br_f m hp)))
theorem ec_Ok_upd {s a : Nat} (ha : a < 12) (H : ec_Ok A) : ec_Ok (upd A s (nI a)) := by
  intro i hi
  by_cases e : i = s
  · rw [e, pk_us]; exact ec_in ha
  · rw [pk_un e]; exact H i hi
theorem ec_ix_s {s a : Nat} (ha : a < 12) : ec_ix (upd A s (nI a)) s = a := by
  unfold ec_ix
  rw [pk_us, ec_cl ha]
theorem ec_ix_n {s : Nat} {x : Int32} : ∀ i, i ≠ s → ec_ix (upd A s x) i = ec_ix A i := by
  intro i h
  unfold ec_ix
  rw [pk_un h]
theorem ec_uu {s : Nat} {x : Int32} : upd (upd K s x) s (K s) = K := by
  funext j
  by_cases e : j = s
  · rw [e, pk_us]
  · rw [pk_un e, pk_un e]
/-- a signal that is no wire afterwards: all else stays -/
theorem ec_Inv_sub {K' O' A' B' : Nat → Int32} {s : Nat} (I : ec_Inv K V O A B) (hA : ec_Ok A') (hB : ec_Ok B') (hK : ∀ i, i ≠ s → K' i = K i) (hO : ∀ i, i ≠ s → O' i = O i)
    (hf : ∀ i, i ≠ s → ec_ix A' i = ec_ix A i) (hh : ∀ i, i ≠ s → ec_ix B' i = ec_ix B i) (hs : K' s ≠ 1) : ec_Inv K' V O' A' B' := by
  obtain ⟨_, _, H15, S, rk, R⟩ := I
  refine ⟨hA, hB, H15, ?_, rk, ec_Rk_sub hK hf hh hs R⟩
  intro i hi hk
  by_cases e : i = s
  · rw [e] at hk; exact absurd hk hs
  · rw [hO i e, hf i e, hh i e]
    rw [hK i e] at hk
    exact S i hi hk
/-- after an input has changed -/
theorem ec_Inv_ch {s : Nat} {x : Int32} (I : ec_Inv K V O A B) (hx : ∃ n, n < 16 ∧ x = nI n) : ec_Inv K (ec_ch K (ec_ix A) (ec_ix B) O C s x V) O A B := by
  obtain ⟨HA, HB, H15, S, rk, R⟩ := I
  exact ⟨HA, HB, ec_ch15 (ec_ixin HA) (ec_ixin HB) H15 hx, ec_settled (ec_ixin HA) (ec_ixin HB) R _, rk, R⟩
theorem ec_Inv_pv {s : Nat} {x y : Int32} (I : ec_Inv K V O A B) (hx : ∃ n, n < 16 ∧ x = nI n) (hy : ∃ n, n < 16 ∧ y = nI n) : ∀ k, ec_Inv K (ec_pv K (ec_ix A) (ec_ix B) O C s x y V k) O A B := by
  intro k
  induction k with
  | zero => exact I
  | succ k ih => exact ec_Inv_ch (ec_Inv_ch ih hx) hy
/-- s is a wire afterwards -/
theorem ec_Inv_wire {s a b : Nat} {o : Int32} (I : ec_Inv K V O A B) (ha : a < 12) (hb : b < 12)
    (R : ∃ rk, ec_Rk (upd K s 1) (ec_ix (upd A s (nI a))) (ec_ix (upd B s (nI b))) rk) :
    ec_Inv (upd K s 1) (ec_se (upd K s 1) (ec_ix (upd A s (nI a))) (ec_ix (upd B s (nI b))) (upd O s o) V 12) (upd O s o) (upd A s (nI a)) (upd B s (nI b)) := by
  obtain ⟨HA, HB, H15, _, _⟩ := I
  obtain ⟨rk, R⟩ := R
  have HA' := ec_Ok_upd (s := s) ha HA
  have HB' := ec_Ok_upd (s := s) hb HB
  exact ⟨HA', HB', ec_V15_se (ec_ixin HA') (ec_ixin HB') H15 12, ec_settled (ec_ixin HA') (ec_ixin HB') R V, rk, R⟩
end ECO
