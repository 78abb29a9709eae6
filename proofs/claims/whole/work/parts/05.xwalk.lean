/-! ===== the component's walks ===== -/
def ec_Ok (A : Nat → Int32) : Prop := ∀ i, i < 12 → vp_in (A i) 12
theorem ec_ixe {A : Nat → Int32} (H : ec_Ok A) {i : Nat} (hi : i < 12) : ec_ix A i < 12 ∧ A i = nI (ec_ix A i) := by
  obtain ⟨j, hj, e⟩ := vp_in_of (H i hi) (by decide)
  have c : ec_ix A i = j := by
    unfold ec_ix
    rw [e]
    exact nI_clamp (by omega)
  rw [c]
  exact ⟨hj, e⟩
theorem ec_ixin {A : Nat → Int32} (H : ec_Ok A) : ec_In (ec_ix A) := fun i hi => (ec_ixe H hi).1
theorem ec_gd {o p q : Int32} (h0 : o ≠ 0) (h1 : o ≠ 1) (h2 : o ≠ 2) (h3 : o ≠ 3) (h4 : o ≠ 4) (h5 : o ≠ 5) (h6 : o ≠ 6) (h7 : o ≠ 7) : ec_g o p q = if p = 0 then q else 15 - q := by
  unfold ec_g
  rw [if_neg h0, if_neg h1, if_neg h2, if_neg h3, if_neg h4, if_neg h5, if_neg h6, if_neg h7]
theorem ec_ne {o c : Int32} (P : Int32 → Prop) (h : P o) (n : ¬ P c) : o ≠ c := fun e => n (e ▸ h)
theorem ec_xres (post : Int32 → Prop) (o p q : Int32) (H : post (ec_g o p q)) : wpX_result post o p q := by
  unfold wpX_result
  by_cases hn : o < 0
  · refine br_t hn ?_
    have c : ∀ x : Int32, ¬ x < 0 → o ≠ x := fun x hx => ec_ne (fun y => y < 0) hn hx
    rw [ec_gd (c 0 (by decide)) (c 1 (by decide)) (c 2 (by decide)) (c 3 (by decide)) (c 4 (by decide)) (c 5 (by decide)) (c 6 (by decide)) (c 7 (by decide))] at H
    by_cases hp : p = 0
    · rw [if_pos hp] at H; exact br_t hp H
    · rw [if_neg hp] at H; exact br_f hp H
  refine br_f hn ?_
  by_cases h7 : 7 < o
  · refine br_t h7 ?_
    have c : ∀ x : Int32, ¬ 7 < x → o ≠ x := fun x hx => ec_ne (fun y => 7 < y) h7 hx
    rw [ec_gd (c 0 (by decide)) (c 1 (by decide)) (c 2 (by decide)) (c 3 (by decide)) (c 4 (by decide)) (c 5 (by decide)) (c 6 (by decide)) (c 7 (by decide))] at H
    by_cases hp : p = 0
    · rw [if_pos hp] at H; exact br_t hp H
    · rw [if_neg hp] at H; exact br_f hp H
  refine br_f h7 ?_
  unfold ec_g at H
  by_cases e0 : o = 0
  · rw [if_pos e0] at H; exact br_t e0 H
  rw [if_neg e0] at H
  refine br_f e0 ?_
  by_cases e1 : o = 1
  · rw [if_pos e1] at H; exact br_t e1 H
  rw [if_neg e1] at H
  refine br_f e1 ?_
  by_cases e2 : o = 2
  · rw [if_pos e2] at H; exact br_t e2 H
  rw [if_neg e2] at H
  refine br_f e2 ?_
  by_cases e3 : o = 3
  · rw [if_pos e3] at H; exact br_t e3 H
  rw [if_neg e3] at H
  refine br_f e3 ?_
  by_cases e4 : o = 4
  · rw [if_pos e4] at H; exact br_t e4 H
  rw [if_neg e4] at H
  refine br_f e4 ?_
  by_cases e5 : o = 5
  · rw [if_pos e5] at H
    refine br_t e5 ?_
    by_cases hq : q ≤ p
    · rw [if_pos hq] at H; exact br_t hq H
    · rw [if_neg hq] at H; exact br_f hq H
  rw [if_neg e5] at H
  refine br_f e5 ?_
  by_cases e6 : o = 6
  · rw [if_pos e6] at H; exact br_t e6 H
  rw [if_neg e6] at H
  refine br_f e6 ?_
  by_cases e7 : o = 7
  · rw [if_pos e7] at H; exact br_t e7 H
  · exact br_f e7 trivial
section ECX
variable {K V O A B C bx : Nat → Int32} {s : Nat}
theorem ec_xst10 {post : SX → Prop} {J2 : Int32 → (Nat → Int32) → (Nat → Int32) → (Nat → Int32) → (Nat → Int32) → (Nat → Int32) → (Nat → Int32) → (Nat → Int32) → Prop} {x1 : Int32} (HA : ec_Ok A) (HB : ec_Ok B)
    (W : Nat → Int32) (H : J2 (x1 + 1) K (ec_sw K (ec_ix A) (ec_ix B) O W 12) O A B C bx) : ∀ d i, i + d = 12 → wX_settle_10 post J2 x1 (d + 1) (nI i) K (ec_sw K (ec_ix A) (ec_ix B) O W i) O A B C bx := by
  intro d
  induction d with
  | zero =>
    intro i hi
    obtain rfl : i = 12 := by omega
    exact br_t ec_12 (nm_e H)
  | succ d ih =>
    intro i hi
    have hi' : i < 12 := by omega
    have I := ec_in hi'
    have n := ih (i + 1) (by omega)
    rw [wX_settle_10]
    dsimp only
    rw [ec_cl hi']
    refine br_f (ec_ge hi') ⟨I, ?_⟩
    by_cases z : K i = 1
    · have es : ec_sw K (ec_ix A) (ec_ix B) O W (i + 1) = upd (ec_sw K (ec_ix A) (ec_ix B) O W i) i (ec_g (O i) (ec_sw K (ec_ix A) (ec_ix B) O W i (ec_ix A i)) (ec_sw K (ec_ix A) (ec_ix B) O W i (ec_ix B i))) := if_pos z
      rw [es] at n
      exact br_t z ⟨I, I, HA i hi', I, HB i hi', ec_xres _ _ _ _ ⟨I, nm_e (nm_r (nI_1 i) n)⟩⟩
    · have es : ec_sw K (ec_ix A) (ec_ix B) O W (i + 1) = ec_sw K (ec_ix A) (ec_ix B) O W i := if_neg z
      rw [es] at n
      exact br_f z (nm_r (nI_1 i) n)
theorem ec_xst2 {post : SX → Prop} (HA : ec_Ok A) (HB : ec_Ok B) (W : Nat → Int32) (H : post (K, ec_se K (ec_ix A) (ec_ix B) O W 12, O, A, B, C, bx)) :
    ∀ d k, k + d = 12 → wX_settle_2 post (d + 1) (nI k) K (ec_se K (ec_ix A) (ec_ix B) O W k) O A B C bx := by
  intro d
  induction d with
  | zero =>
    intro i hi
    obtain rfl : i = 12 := by omega
    exact br_t ec_12 H
  | succ d ih =>
    intro k hk
    have n := ih (k + 1) (by omega)
    rw [← nI_1] at n
    exact br_f (ec_ge (by omega)) ⟨13, ec_xst10 HA HB (ec_se K (ec_ix A) (ec_ix B) O W k) n 12 0 rfl⟩
theorem ec_xsettle {post : SX → Prop} (HA : ec_Ok A) (HB : ec_Ok B) {W : Nat → Int32} (H : post (K, ec_se K (ec_ix A) (ec_ix B) O W 12, O, A, B, C, bx)) :
    wpX_settle post (K, W, O, A, B, C, bx) := ⟨13, ec_xst2 HA HB W H 12 0 rfl⟩
/-! the sets of wires -/
theorem ec_xwr4 {post : Int32 → Prop} (HA : ec_Ok A) (HB : ec_Ok B) (m : Int32)
    (H : ∀ r, (∀ i, i < 32 → (bt r i = true ↔ (i < 12 ∧ K i = 1 ∧ (bt m (ec_ix A i) = true ∨ bt m (ec_ix B i) = true)))) → post r) :
    ∀ d j x2, j + d = 12 → (∀ i, i < 32 → (bt x2 i = true ↔ (i < j ∧ K i = 1 ∧ (bt m (ec_ix A i) = true ∨ bt m (ec_ix B i) = true)))) → wX_wiresReading_4 post m K V O A B C bx (d + 1) x2 (nI j) := by
  intro d
  induction d with
  | zero =>
    intro j x2 hj hx
    obtain rfl : j = 12 := by omega
    exact br_t ec_12 (H x2 hx)
  | succ d ih =>
    intro j x2 hj hx
    have hj' : j < 12 := by omega
    have I := ec_in hj'
    have ea := ec_ixe HA hj'
    have eb := ec_ixe HB hj'
    rw [wX_wiresReading_4]
    dsimp only
    rw [ec_cl hj']
    refine br_f (ec_ge hj') ⟨I, ?_⟩
    by_cases z : K j = 1
    · refine br_t z ⟨I, I, nm_e ?_⟩
      rw [ea.2, eb.2]
      by_cases y : bt m (ec_ix A j) = true ∨ bt m (ec_ix B j) = true
      · refine br_f (fun c => (ec_rdt ea.1 eb.1).mp c y) (nm_e (nm_r (nI_1 j) (ih (j + 1) _ (by omega) ?_)))
        intro i hi
        rw [b_or, ec_one j hj' i hi, Bool.or_eq_true, hx i hi, decide_eq_true_eq]
        constructor
        · rintro (c | rfl)
          · exact ⟨by omega, c.2⟩
          · exact ⟨by omega, z, y⟩
        · rintro ⟨c1, c2⟩
          by_cases e : i = j
          · exact Or.inr e
          · exact Or.inl ⟨by omega, c2⟩
      · refine br_t ((ec_rdt ea.1 eb.1).mpr y) (nm_e (nm_r (nI_1 j) (ih (j + 1) _ (by omega) ?_)))
        intro i hi
        rw [b_or, b_0, Bool.or_false, hx i hi]
        constructor
        · rintro ⟨c1, c2⟩
          exact ⟨by omega, c2⟩
        · rintro ⟨c1, c2⟩
          by_cases e : i = j
          · subst e; exact absurd c2.2 y
          · exact ⟨by omega, c2⟩
    · refine br_f z (nm_r (nI_1 j) (ih (j + 1) _ (by omega) ?_))
      intro i hi
      rw [hx i hi]
      constructor
      · rintro ⟨c1, c2⟩
        exact ⟨by omega, c2⟩
      · rintro ⟨c1, c2⟩
        by_cases e : i = j
        · subst e; exact absurd c2.1 z
        · exact ⟨by omega, c2⟩
theorem ec_xwr {post : Int32 → Prop} (HA : ec_Ok A) (HB : ec_Ok B) (m : Int32)
    (H : ∀ r, (∀ i, i < 32 → (bt r i = true ↔ (i < 12 ∧ K i = 1 ∧ (bt m (ec_ix A i) = true ∨ bt m (ec_ix B i) = true)))) → post r) :
    wpX_wiresReading post (K, V, O, A, B, C, bx) m := by
  refine ⟨13, ec_xwr4 HA HB m H 12 0 0 rfl ?_⟩
  intro i hi
  rw [b_0]
  constructor
  · intro c; exact absurd c (by decide)
  · intro c; omega
theorem ec_xwo4 {post : Int32 → Prop} (HA : ec_Ok A) (HB : ec_Ok B) (hs : s < 12)
    (H : ∀ r, (∀ i, i < 32 → (bt r i = true ↔ (i < 12 ∧ ec_F K (ec_ix A) (ec_ix B) s 12 i))) → post r) :
    ∀ d k x2, k + d = 12 → (∀ i, i < 32 → (bt x2 i = true ↔ (i < 12 ∧ ec_F K (ec_ix A) (ec_ix B) s k i))) → wX_wiresOn_4 post (nI s) K V O A B C bx (d + 1) x2 (nI k) := by
  intro d
  induction d with
  | zero =>
    intro j x2 hj hx
    obtain rfl : j = 12 := by omega
    exact br_t ec_12 (H x2 hx)
  | succ d ih =>
    intro k x2 hk hx
    refine br_f (ec_ge (by omega)) (ec_xwr HA HB _ fun r hr => nm_r (nI_1 k) (ih (k + 1) r (by omega) ?_))
    intro i hi
    rw [hr i hi]
    have bm : ∀ t, t < 12 → (bt (x2 ||| ((1 : Int32) <<< (nI s &&& 31))) t = true ↔ (t = s ∨ ec_F K (ec_ix A) (ec_ix B) s k t)) := by
      intro t ht
      rw [b_or, ec_one s hs t (by omega), Bool.or_eq_true, hx t (by omega), decide_eq_true_eq]
      constructor
      · rintro (c | c)
        · exact Or.inr c.2
        · exact Or.inl c
      · rintro (c | c)
        · exact Or.inr c
        · exact Or.inl ⟨ht, c⟩
    constructor
    · rintro ⟨c1, c2, c3⟩
      rw [bm _ (ec_ixin HA i c1), bm _ (ec_ixin HB i c1)] at c3
      exact ⟨c1, c2, c3⟩
    · rintro ⟨c1, c2, c3⟩
      refine ⟨c1, c2, ?_⟩
      rw [bm _ (ec_ixin HA i c1), bm _ (ec_ixin HB i c1)]
      exact c3
theorem ec_xwo {post : Int32 → Prop} (HA : ec_Ok A) (HB : ec_Ok B) (hs : s < 12)
    (H : ∀ r, (∀ i, i < 32 → (bt r i = true ↔ (i < 12 ∧ ec_F K (ec_ix A) (ec_ix B) s 12 i))) → post r) :
    wpX_wiresOn post (K, V, O, A, B, C, bx) (nI s) := by
  refine ⟨13, ec_xwo4 HA HB hs H 12 0 0 rfl ?_⟩
  intro i hi
  rw [b_0]
  constructor
  · intro c; exact absurd c (by decide)
  · intro c; exact c.2.elim
theorem ec_xcirc {post : Int32 → Prop} (HA : ec_Ok A) (HB : ec_Ok B) (hs : s < 12) {a b : Nat} (ha : a < 12) (hb : b < 12)
    (H0 : ¬ ((a = s ∨ ec_F K (ec_ix A) (ec_ix B) s 12 a) ∨ (b = s ∨ ec_F K (ec_ix A) (ec_ix B) s 12 b)) → post 0)
    (H1 : ((a = s ∨ ec_F K (ec_ix A) (ec_ix B) s 12 a) ∨ (b = s ∨ ec_F K (ec_ix A) (ec_ix B) s 12 b)) → post 1) :
    wpX_wouldCircle post (K, V, O, A, B, C, bx) (nI s) (nI a) (nI b) := by
  refine ec_xwo (post := fun r_1 => ∀ x4_9 : Int32, x4_9 = r_1 ||| ((1 : Int32) <<< (nI s &&& 31)) → ∀ x5_10 : Int32, x5_10 = ((1 : Int32) <<< (nI a &&& 31)) ||| ((1 : Int32) <<< (nI b &&& 31)) → (((x4_9 &&& x5_10) = 0 → (post 0)) ∧ (¬ (x4_9 &&& x5_10) = 0 → (post 1)))) HA HB hs fun r hr => nm_e (nm_e ?_)
  have bm : ∀ t, t < 12 → (bt (r ||| ((1 : Int32) <<< (nI s &&& 31))) t = true ↔ (t = s ∨ ec_F K (ec_ix A) (ec_ix B) s 12 t)) := by
    intro t ht
    rw [b_or, ec_one s hs t (by omega), Bool.or_eq_true, hr t (by omega), decide_eq_true_eq]
    constructor
    · rintro (c | c)
      · exact Or.inr c.2
      · exact Or.inl c
    · rintro (c | c)
      · exact Or.inr c
      · exact Or.inl ⟨ht, c⟩
  rw [Int32.and_comm, ec_rdt ha hb, bm a ha, bm b hb]
  exact ⟨H0, fun c => H1 (Classical.not_not.mp c)⟩
theorem ec_xput {post : SX → Prop} (hs : s < 12) {o a b : Int32} (H : post (K, V, upd O s o, upd A s a, upd B s b, C, bx)) :
    wpX_putFormula post (K, V, O, A, B, C, bx) (nI s) o a b := by
  have I := ec_in hs
  unfold wpX_putFormula
  dsimp only
  rw [ec_cl hs]
  exact ⟨I, nm_e ⟨I, nm_e ⟨I, nm_e H⟩⟩⟩
end ECX
