/-! ===== the component's walks: an input changes, counts, pulses, depth ===== -/
/-- the values and the count after k pulses -/
def ec_pv (K : Nat → Int32) (f h : Nat → Nat) (O C : Nat → Int32) (s : Nat) (x y : Int32) (V : Nat → Int32) : Nat → (Nat → Int32)
  | 0 => V
  | k + 1 => ec_ch K f h O C s y (ec_ch K f h O C s x (ec_pv K f h O C s x y V k))
def ec_pc (K : Nat → Int32) (f h : Nat → Nat) (O C : Nat → Int32) (s : Nat) (x y : Int32) (V : Nat → Int32) : Nat → Nat
  | 0 => 0
  | k + 1 => ec_pc K f h O C s x y V k + ec_rc K f h O C s x (ec_pv K f h O C s x y V k) + ec_rc K f h O C s y (ec_ch K f h O C s x (ec_pv K f h O C s x y V k))
section ECX2
variable {K V O A B C bx : Nat → Int32} {s : Nat}
theorem ec_xck2 {post : SX → Prop} (HA : ec_Ok A) (HB : ec_Ok B) {c : Int32} (hb : ∀ j, j < 12 → bx j = V j)
    (H : post (K, ec_ck K (ec_ix A) (ec_ix B) O C c V 12, O, A, B, C, bx)) :
    ∀ d i, i + d = 12 → wX_clockRegisters_2 post c (d + 1) (nI i) K (ec_ck K (ec_ix A) (ec_ix B) O C c V i) O A B C bx := by
  intro d
  induction d with
  | zero =>
    intro i hi
    obtain rfl : i = 12 := by omega
    exact br_t ec_12 H
  | succ d ih =>
    intro i hi
    have hi' : i < 12 := by omega
    have I := ec_in hi'
    have n := ih (i + 1) (by omega)
    have ea : bx (A i).toNatClampNeg = V (ec_ix A i) := hb _ (ec_ixin HA i hi')
    have eb : bx (B i).toNatClampNeg = V (ec_ix B i) := hb _ (ec_ixin HB i hi')
    rw [wX_clockRegisters_2]
    dsimp only
    rw [ec_cl hi', ea, eb]
    refine br_f (ec_ge hi') ⟨I, ?_⟩
    by_cases z : K i = 2
    · by_cases y : C i = c
      · have es : ec_ck K (ec_ix A) (ec_ix B) O C c V (i + 1) = upd (ec_ck K (ec_ix A) (ec_ix B) O C c V i) i (ec_g (O i) (V (ec_ix A i)) (V (ec_ix B i))) := if_pos ⟨z, y⟩
        rw [es] at n
        exact br_t z ⟨I, br_t y ⟨I, I, HA i hi', I, HB i hi', ec_xres _ _ _ _ ⟨I, nm_e (nm_r (nI_1 i) n)⟩⟩⟩
      · have es : ec_ck K (ec_ix A) (ec_ix B) O C c V (i + 1) = ec_ck K (ec_ix A) (ec_ix B) O C c V i := if_neg (fun w => y w.2)
        rw [es] at n
        exact br_t z ⟨I, br_f y (nm_r (nI_1 i) n)⟩
    · have es : ec_ck K (ec_ix A) (ec_ix B) O C c V (i + 1) = ec_ck K (ec_ix A) (ec_ix B) O C c V i := if_neg (fun w => z w.1)
      rw [es] at n
      exact br_f z (nm_r (nI_1 i) n)
theorem ec_x59 {post : SX → Prop} (HA : ec_Ok A) (HB : ec_Ok B) (hs : s < 12) {x : Int32} {W : Nat → Int32}
    (H : post (K, ec_se K (ec_ix A) (ec_ix B) O (upd W s x) 12, O, A, B, C, bx)) : wX_changeInput_59 post (nI s) x K W O A B C bx := by
  unfold wX_changeInput_59
  rw [ec_cl hs]
  exact ⟨ec_in hs, nm_e (ec_xsettle HA HB H)⟩
theorem ec_xci2 {post : SX → Prop} (HA : ec_Ok A) (HB : ec_Ok B) (hs : s < 12) {x : Int32}
    (H : ∀ bx', (∀ j, j < 12 → bx' j = V j) → post (K, ec_ch K (ec_ix A) (ec_ix B) O C s x V, O, A, B, C, bx')) :
    ∀ d i bx, i + d = 12 → (∀ j, j < i → bx j = V j) → wX_changeInput_2 post (nI s) x (d + 1) (nI i) K V O A B C bx := by
  intro d
  induction d with
  | zero =>
    intro i bx hi hb
    obtain rfl : i = 12 := by omega
    have Hb := H bx hb
    unfold ec_ch ec_cv ec_up at Hb
    rw [← hb s hs] at Hb
    rw [wX_changeInput_2]
    dsimp only
    rw [ec_cl hs]
    refine br_t ec_12 ⟨ec_in hs, ?_⟩
    by_cases z : bx s &&& 1 = 0
    · refine br_t z ?_
      by_cases y : x &&& 1 = 1
      · rw [if_pos (by simp [z, y])] at Hb
        refine br_t y (br_f (by decide) ?_)
        exact ⟨13, ec_xck2 HA HB hb (ec_x59 HA HB hs Hb) 12 0 rfl⟩
      · rw [if_neg (by simp [y])] at Hb
        exact br_f y (br_t rfl (ec_x59 HA HB hs Hb))
    · rw [if_neg (by simp [z])] at Hb
      exact br_f z (br_t rfl (ec_x59 HA HB hs Hb))
  | succ d ih =>
    intro i bx hi hb
    have hi' : i < 12 := by omega
    have I := ec_in hi'
    have n := ih (i + 1) (upd bx i (V i)) (by omega) (fun j hj => by
      by_cases e : j = i
      · rw [e]; exact pk_us
      · rw [pk_un e]; exact hb j (by omega))
    rw [wX_changeInput_2]
    dsimp only
    rw [ec_cl hi']
    exact br_f (ec_ge hi') ⟨I, I, nm_e (nm_r (nI_1 i) n)⟩
theorem ec_xci {post : SX → Prop} (HA : ec_Ok A) (HB : ec_Ok B) (hs : s < 12) {x : Int32}
    (H : ∀ bx', (∀ j, j < 12 → bx' j = V j) → post (K, ec_ch K (ec_ix A) (ec_ix B) O C s x V, O, A, B, C, bx')) :
    wpX_changeInput post (K, V, O, A, B, C, bx) (nI s) x := ⟨13, ec_xci2 HA HB hs H 12 0 bx rfl (fun j hj => by omega)⟩
theorem ec_cnt_t {p : Nat → Bool} {i : Nat} (h : p i = true) : ec_cnt p (i + 1) = ec_cnt p i + 1 := by simp only [ec_cnt, h, if_true]
theorem ec_cnt_f {p : Nat → Bool} {i : Nat} (h : p i = false) : ec_cnt p (i + 1) = ec_cnt p i := by simp [ec_cnt, h]
theorem ec_xset25 {post : Int32 → SX → Prop} (H : post (nI (ec_cnt (fun i => !decide (V i = bx i)) 12)) (K, V, O, A, B, C, bx)) :
    ∀ d i, i + d = 12 → wX_set_25 post K V O A B C bx (d + 1) (nI (ec_cnt (fun i => !decide (V i = bx i)) i)) (nI i) := by
  intro d
  induction d with
  | zero =>
    intro i hi
    obtain rfl : i = 12 := by omega
    exact br_t ec_12 H
  | succ d ih =>
    intro i hi
    have hi' : i < 12 := by omega
    have I := ec_in hi'
    have n := ih (i + 1) (by omega)
    rw [wX_set_25]
    dsimp only
    rw [ec_cl hi']
    refine br_f (ec_ge hi') ⟨I, I, ?_⟩
    by_cases z : V i = bx i
    · rw [ec_cnt_f (by simp [z])] at n
      exact br_t z (nm_r (nI_1 i) n)
    · rw [ec_cnt_t (by simp [z])] at n
      exact br_f z (nm_r (nI_1 _) (nm_r (nI_1 i) n))
theorem ec_xcr4 {post : Int32 → Prop} (H : post (nI (ec_cnt (fun r => decide (K r = 2) && !decide (V r = bx r)) 12))) :
    ∀ d i, i + d = 12 → wX_changedRegisters_4 post K V O A B C bx (d + 1) (nI (ec_cnt (fun r => decide (K r = 2) && !decide (V r = bx r)) i)) (nI i) := by
  intro d
  induction d with
  | zero =>
    intro i hi
    obtain rfl : i = 12 := by omega
    exact br_t ec_12 H
  | succ d ih =>
    intro i hi
    have hi' : i < 12 := by omega
    have I := ec_in hi'
    have n := ih (i + 1) (by omega)
    rw [wX_changedRegisters_4]
    dsimp only
    rw [ec_cl hi']
    refine br_f (ec_ge hi') ⟨I, ?_⟩
    by_cases k : K i = 2
    · refine br_t k ⟨I, I, ?_⟩
      by_cases z : V i = bx i
      · rw [ec_cnt_f (by simp [z])] at n
        exact br_t z (nm_r (nI_1 i) n)
      · rw [ec_cnt_t (by simp [z, k])] at n
        exact br_f z (nm_r (nI_1 _) (nm_r (nI_1 i) n))
    · rw [ec_cnt_f (by simp [k])] at n
      exact br_f k (nm_r (nI_1 i) n)
theorem ec_xcr {post : Int32 → Prop} (H : post (nI (ec_cnt (fun r => decide (K r = 2) && !decide (V r = bx r)) 12))) :
    wpX_changedRegisters post (K, V, O, A, B, C, bx) := ⟨13, ec_xcr4 H 12 0 rfl⟩
theorem ec_xpu {post : Int32 → SX → Prop} (HA : ec_Ok A) (HB : ec_Ok B) (hs : s < 12) (hk0 : K s = 0) {x y p2 : Int32} {T : Nat} (hT : T ≤ 16)
    (hlt : ∀ k, k < T → ¬ p2 ≤ nI k) (he : T = 16 ∨ p2 ≤ nI T)
    (H : ∀ bx', post (nI (ec_pc K (ec_ix A) (ec_ix B) O C s x y V T)) (K, ec_pv K (ec_ix A) (ec_ix B) O C s x y V T, O, A, B, C, bx')) :
    ∀ d k bx, k + d = T → wX_pulse_30 post (nI s) x p2 y (d + 1) (nI (ec_pc K (ec_ix A) (ec_ix B) O C s x y V k)) (nI k) K (ec_pv K (ec_ix A) (ec_ix B) O C s x y V k) O A B C bx := by
  intro d
  induction d with
  | zero =>
    intro k bx hk
    obtain rfl : k = T := by omega
    by_cases z : (16 : Int32) ≤ nI k
    · exact br_t z (H bx)
    · rcases he with e | e
      · subst e
        exact absurd (nI_le (a := 16) (b := 16) (by decide) (by decide)) z
      · exact br_f z (br_t e (H bx))
  | succ d ih =>
    intro k bx hk
    have h16 : ¬ (16 : Int32) ≤ nI k := nI_ge (b := 16) (by omega) (by decide)
    refine br_f h16 (br_f (hlt k (by omega)) ?_)
    refine ec_xci HA HB hs fun b1 hb1 => ec_xcr (nm_e (ec_xci HA HB hs fun b2 hb2 => ec_xcr (nm_e (nm_r (nI_1 k) ?_))))
    rw [ec_rc_x hk0 hb1, ec_rc_x hk0 hb2, nI_add, nI_add]
    exact ih (k + 1) b2 (by omega)
/-! depth -/
theorem ec_xaw4 {post : Int32 → Prop} (H : ∀ r, (∀ i, i < 32 → (bt r i = true ↔ (i < 12 ∧ K i = 1))) → post r) :
    ∀ d j x1, j + d = 12 → (∀ i, i < 32 → (bt x1 i = true ↔ (i < j ∧ K i = 1))) → wX_allWires_4 post K V O A B C bx (d + 1) x1 (nI j) := by
  intro d
  induction d with
  | zero =>
    intro j x2 hj hx
    obtain rfl : j = 12 := by omega
    exact br_t ec_12 (H x2 hx)
  | succ d ih =>
    intro j x2 hj hx
    have hj' : j < 12 := by omega
    rw [wX_allWires_4]
    dsimp only
    rw [ec_cl hj']
    refine br_f (ec_ge hj') ⟨ec_in hj', ?_⟩
    by_cases z : K j = 1
    · refine br_t z (nm_e (nm_r (nI_1 j) (ih (j + 1) _ (by omega) ?_)))
      intro i hi
      rw [b_or, ec_one j hj' i hi, Bool.or_eq_true, hx i hi, decide_eq_true_eq]
      constructor
      · rintro (c | rfl)
        · exact ⟨by omega, c.2⟩
        · exact ⟨by omega, z⟩
      · rintro ⟨c1, c2⟩
        by_cases e : i = j
        · exact Or.inr e
        · exact Or.inl ⟨by omega, c2⟩
    · refine br_f z (nm_r (nI_1 j) (ih (j + 1) _ (by omega) ?_))
      intro i hi
      rw [hx i hi]
      constructor
      · rintro ⟨c1, c2⟩
        exact ⟨by omega, c2⟩
      · rintro ⟨c1, c2⟩
        by_cases e : i = j
        · subst e; exact absurd c2 z
        · exact ⟨by omega, c2⟩
theorem ec_xaw {post : Int32 → Prop} (H : ∀ r, (∀ i, i < 32 → (bt r i = true ↔ (i < 12 ∧ K i = 1))) → post r) :
    wpX_allWires post (K, V, O, A, B, C, bx) := by
  refine ⟨13, ec_xaw4 H 12 0 0 rfl ?_⟩
  intro i hi
  rw [b_0]
  constructor
  · intro c; exact absurd c (by decide)
  · intro c; omega
theorem ec_xd9 {post : Int32 → Prop} (HA : ec_Ok A) (HB : ec_Ok B) {dp : Nat → Nat} (D : ec_Dep K (ec_ix A) (ec_ix B) dp) (H : post (nI (ec_mx dp 12))) :
    ∀ d k x1, k + d = 12 → k ≤ ec_mx dp 12 → (∀ i, i < 32 → (bt x1 i = true ↔ (i < 12 ∧ k < dp i))) → wX_depth_9 post K V O A B C bx (d + 1) x1 (nI k) (nI k) := by
  intro d
  induction d with
  | zero =>
    intro k x1 hk hm hx
    obtain rfl : k = 12 := by omega
    have e : ec_mx dp 12 ≤ 12 := ec_mx_le dp 12 D.1
    rw [show ec_mx dp 12 = 12 by omega] at H
    exact br_t ec_12 H
  | succ d ih =>
    intro k x1 hk hm hx
    refine br_f (ec_ge (by omega)) ?_
    by_cases z : x1 = 0
    · have e : ec_mx dp 12 ≤ k := ec_mx_le dp 12 (fun i hi => by
        have a := hx i (by omega)
        rw [z, b_0] at a
        by_cases q : k < dp i
        · exact absurd (a.mpr ⟨hi, q⟩) (by decide)
        · omega)
      rw [show ec_mx dp 12 = k by omega] at H
      exact br_t z H
    · have e : k + 1 ≤ ec_mx dp 12 := by
        by_cases q : k + 1 ≤ ec_mx dp 12
        · exact q
        · exfalso
          apply z
          rw [ec_z]
          intro i hi
          cases hb : bt x1 i
          · rfl
          · have a := (hx i hi).mp hb
            have b := ec_mx_ge dp 12 i a.1
            omega
      refine br_f z (ec_xwr HA HB x1 fun r hr => nm_r (nI_1 k) (nm_r (nI_1 k) (ih (k + 1) r (by omega) e ?_)))
      intro i hi
      rw [hr i hi]
      constructor
      · rintro ⟨c1, c2, c3⟩
        rw [hx _ (Nat.lt_trans (ec_ixin HA i c1) (by decide)), hx _ (Nat.lt_trans (ec_ixin HB i c1) (by decide))] at c3
        have a := D.2.1 i c1 c2
        refine ⟨c1, ?_⟩
        rcases c3 with c | c
        · have := c.2; omega
        · have := c.2; omega
      · rintro ⟨c1, c2⟩
        by_cases w : K i = 1
        · refine ⟨c1, w, ?_⟩
          have a := D.2.1 i c1 w
          rw [hx _ (Nat.lt_trans (ec_ixin HA i c1) (by decide)), hx _ (Nat.lt_trans (ec_ixin HB i c1) (by decide))]
          by_cases q : k < dp (ec_ix A i)
          · exact Or.inl ⟨ec_ixin HA i c1, q⟩
          · exact Or.inr ⟨ec_ixin HB i c1, by omega⟩
        · have := D.2.2 i c1 w
          omega
theorem ec_xdepth {post : Int32 → Prop} (HA : ec_Ok A) (HB : ec_Ok B) {dp : Nat → Nat} (D : ec_Dep K (ec_ix A) (ec_ix B) dp) (H : post (nI (ec_mx dp 12))) :
    wpX_depth post (K, V, O, A, B, C, bx) := by
  refine ec_xaw (post := fun r_1 => ∃ n9 : Nat, wX_depth_9 post K V O A B C bx n9 r_1 0 0) fun r hr => ⟨13, ec_xd9 HA HB D H 12 0 r rfl (Nat.zero_le _) ?_⟩
  intro i hi
  rw [hr i hi]
  constructor
  · rintro ⟨c1, c2⟩
    have := D.2.1 i c1 c2
    exact ⟨c1, by omega⟩
  · rintro ⟨c1, c2⟩
    by_cases w : K i = 1
    · exact ⟨c1, w⟩
    · have := D.2.2 i c1 w
      omega
end ECX2
