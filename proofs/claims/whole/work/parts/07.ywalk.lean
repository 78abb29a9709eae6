/-! ===== the reference's walks ===== -/
section ECY
variable {K V O A B C bY on : Nat → Int32} {s : Nat}
theorem ec_yfor {post : Int32 → Prop} (HA : ec_Ok A) (HB : ec_Ok B) {i : Nat} (hi : i < 12) (H : post (ec_g (O i) (V (ec_ix A i)) (V (ec_ix B i)))) :
    wpY_formula post (K, O, A, B, C, V, bY, on) (nI i) := by
  have I := ec_in hi
  unfold wpY_formula
  dsimp only
  rw [ec_cl hi]
  refine ⟨I, HA i hi, nm_r (e' := V (ec_ix A i)) rfl ⟨I, HB i hi, nm_r (e' := V (ec_ix B i)) rfl ⟨I, ?_⟩⟩⟩
  revert H
  generalize V (ec_ix A i) = p
  generalize V (ec_ix B i) = q
  generalize O i = o
  intro H
  unfold ec_g at H
  by_cases e0 : o = 0
  · rw [if_pos e0] at H; exact br_t e0 H
  rw [if_neg e0] at H
  refine br_f e0 ⟨I, ?_⟩
  by_cases e1 : o = 1
  · rw [if_pos e1] at H; exact br_t e1 H
  rw [if_neg e1] at H
  refine br_f e1 ⟨I, ?_⟩
  by_cases e2 : o = 2
  · rw [if_pos e2] at H; exact br_t e2 H
  rw [if_neg e2] at H
  refine br_f e2 ⟨I, ?_⟩
  by_cases e3 : o = 3
  · rw [if_pos e3] at H; exact br_t e3 H
  rw [if_neg e3] at H
  refine br_f e3 ⟨I, ?_⟩
  by_cases e4 : o = 4
  · rw [if_pos e4] at H; exact br_t e4 H
  rw [if_neg e4] at H
  refine br_f e4 ⟨I, ?_⟩
  by_cases e5 : o = 5
  · rw [if_pos e5] at H
    refine br_t e5 ?_
    by_cases hq : q ≤ p
    · rw [if_pos hq] at H; exact br_t hq H
    · rw [if_neg hq] at H; exact br_f hq H
  rw [if_neg e5] at H
  refine br_f e5 ⟨I, ?_⟩
  by_cases e6 : o = 6
  · rw [if_pos e6] at H; exact br_t e6 H
  rw [if_neg e6] at H
  refine br_f e6 ⟨I, ?_⟩
  by_cases e7 : o = 7
  · rw [if_pos e7] at H; exact br_t e7 H
  rw [if_neg e7] at H
  refine br_f e7 ?_
  by_cases hp : p = 0
  · rw [if_pos hp] at H; exact br_t hp H
  · rw [if_neg hp] at H; exact br_f hp H
theorem ec_yst10 {post : SY → Prop} {J2 : Int32 → (Nat → Int32) → (Nat → Int32) → (Nat → Int32) → (Nat → Int32) → (Nat → Int32) → (Nat → Int32) → (Nat → Int32) → (Nat → Int32) → Prop} {x1 : Int32} (HA : ec_Ok A) (HB : ec_Ok B)
    (W : Nat → Int32) (H : J2 (x1 + 1) K O A B C (ec_sw K (ec_ix A) (ec_ix B) O W 12) bY on) : ∀ d i, i + d = 12 → wY_settle_10 post J2 x1 (d + 1) (nI i) K O A B C (ec_sw K (ec_ix A) (ec_ix B) O W i) bY on := by
  intro d
  induction d with
  | zero =>
    intro i hi
    obtain rfl : i = 12 := by omega
    exact br_t ec_12 (nm_e H)
  | succ d ih =>
    intro i hi
    have hi' : i < 12 := by omega
    have I := ec_in hi'
    have n := ih (i + 1) (by omega)
    rw [wY_settle_10]
    dsimp only
    rw [ec_cl hi']
    refine br_f (ec_ge hi') ⟨I, ?_⟩
    by_cases z : K i = 1
    · have es : ec_sw K (ec_ix A) (ec_ix B) O W (i + 1) = upd (ec_sw K (ec_ix A) (ec_ix B) O W i) i (ec_g (O i) (ec_sw K (ec_ix A) (ec_ix B) O W i (ec_ix A i)) (ec_sw K (ec_ix A) (ec_ix B) O W i (ec_ix B i))) := if_pos z
      rw [es] at n
      exact br_t z (ec_yfor HA HB hi' ⟨I, nm_e (nm_r (nI_1 i) n)⟩)
    · have es : ec_sw K (ec_ix A) (ec_ix B) O W (i + 1) = ec_sw K (ec_ix A) (ec_ix B) O W i := if_neg z
      rw [es] at n
      exact br_f z (nm_r (nI_1 i) n)
theorem ec_yst2 {post : SY → Prop} (HA : ec_Ok A) (HB : ec_Ok B) (W : Nat → Int32) (H : post (K, O, A, B, C, ec_se K (ec_ix A) (ec_ix B) O W 12, bY, on)) :
    ∀ d k, k + d = 12 → wY_settle_2 post (d + 1) (nI k) K O A B C (ec_se K (ec_ix A) (ec_ix B) O W k) bY on := by
  intro d
  induction d with
  | zero =>
    intro i hi
    obtain rfl : i = 12 := by omega
    exact br_t ec_12 H
  | succ d ih =>
    intro k hk
    have n := ih (k + 1) (by omega)
    rw [← nI_1] at n
    exact br_f (ec_ge (by omega)) ⟨13, ec_yst10 HA HB (ec_se K (ec_ix A) (ec_ix B) O W k) n 12 0 rfl⟩
theorem ec_ysettle {post : SY → Prop} (HA : ec_Ok A) (HB : ec_Ok B) {W : Nat → Int32} (H : post (K, O, A, B, C, ec_se K (ec_ix A) (ec_ix B) O W 12, bY, on)) :
    wpY_settle post (K, O, A, B, C, W, bY, on) := ⟨13, ec_yst2 HA HB W H 12 0 rfl⟩
/-! findHanging -/
def ec_Snd (K : Nat → Int32) (f h : Nat → Nat) (on : Nat → Int32) : Prop := ∀ w, w < 12 → ∀ t, t < 12 → bt (on w) t = true → ∃ k, ec_F K f h t k w
def ec_Cm (K : Nat → Int32) (f h : Nat → Nat) (on : Nat → Int32) (j w : Nat) : Prop := ∀ t, t < 12 → ec_F K f h t j w → bt (on w) t = true
theorem ec_or_le {on : Nat → Int32} {i j : Nat} {w t : Nat} (z : bt (on w) t = true) : bt (upd on i (on i ||| on j) w) t = true := by
  by_cases e : w = i
  · rw [e, pk_us, b_or]
    rw [e] at z
    rw [z]
    rfl
  · rw [pk_un e]; exact z
theorem ec_y69 {post : SY → Prop} {J53 J61 : Int32 → (Nat → Int32) → (Nat → Int32) → (Nat → Int32) → (Nat → Int32) → (Nat → Int32) → (Nat → Int32) → (Nat → Int32) → (Nat → Int32) → Prop} {x1 : Int32} {k i : Nat} (hi : i < 12)
    (H : ∀ on', ec_Snd K (ec_ix A) (ec_ix B) on' → (∀ w, w < 12 → ec_Cm K (ec_ix A) (ec_ix B) on' (k + 1) w) → (∀ w, w < i + 1 → ec_Cm K (ec_ix A) (ec_ix B) on' (k + 2) w) → J61 (nI (i + 1)) K O A B C V bY on')
    (HA : ec_Ok A) (HB : ec_Ok B) :
    ∀ d t on, t + d = 12 → ec_Snd K (ec_ix A) (ec_ix B) on → (∀ w, w < 12 → ec_Cm K (ec_ix A) (ec_ix B) on (k + 1) w) → (∀ w, w < i → ec_Cm K (ec_ix A) (ec_ix B) on (k + 2) w) →
      (∀ t', t' < t → K i = 1 → (ec_ix A i = t' ∨ ec_ix B i = t') → ∀ v, v < 12 → ec_F K (ec_ix A) (ec_ix B) v (k + 1) t' → bt (on i) v = true) →
      wY_findHanging_69 post J53 J61 x1 (nI i) (d + 1) (nI t) K O A B C V bY on := by
  intro d
  induction d with
  | zero =>
    intro t on ht S c1 c2 c3
    obtain rfl : t = 12 := by omega
    refine br_t ec_12 (nm_r (nI_1 i) (H on S c1 ?_))
    intro w hw
    by_cases e : w = i
    · subst e
      intro v hv z
      have one : ∀ t', (ec_ix A w = t' ∨ ec_ix B w = t') → t' < 12 → (t' = v ∨ ec_F K (ec_ix A) (ec_ix B) v (k + 1) t') → bt (on w) v = true := by
        intro t' ht' ht2 y
        rcases y with y | y
        · apply c1 w hi v hv
          apply ec_F_le (k := 1) (by omega)
          refine ⟨z.1, ?_⟩
          rcases ht' with q | q
          · exact Or.inl (Or.inl (q.trans y))
          · exact Or.inr (Or.inl (q.trans y))
        · exact c3 t' ht2 z.1 ht' v hv y
      rcases z.2 with y | y
      · exact one _ (Or.inl rfl) (ec_ixin HA w hi) y
      · exact one _ (Or.inr rfl) (ec_ixin HB w hi) y
    · exact c2 w (by omega)
  | succ d ih =>
    intro t on ht S c1 c2 c3
    have ht' : t < 12 := by omega
    have I := ec_in hi
    have It := ec_in ht'
    rw [wY_findHanging_69]
    dsimp only
    rw [ec_cl hi, ec_cl ht']
    refine br_f (ec_ge ht') ⟨I, ?_⟩
    by_cases z : bt (on i) t = true
    · refine br_t ((ec_tst ht').mpr z) ⟨I, It, I, nm_e (nm_r (nI_1 t) (ih (t + 1) _ (by omega) ?_ ?_ ?_ ?_))⟩
      · intro w hw v hv y
        by_cases e : w = i
        · subst e
          rw [pk_us, b_or, Bool.or_eq_true] at y
          rcases y with y | y
          · exact S w hw v hv y
          · obtain ⟨k1, h1⟩ := S w hw t ht' z
            obtain ⟨k2, h2⟩ := S t ht' v hv y
            exact ⟨k1 + k2, ec_F_trans k1 k2 w h1 h2⟩
        · rw [pk_un e] at y
          exact S w hw v hv y
      · exact fun w hw v hv y => ec_or_le (c1 w hw v hv y)
      · exact fun w hw v hv y => ec_or_le (c2 w hw v hv y)
      · intro t' hl hk he v hv y
        by_cases e : t' = t
        · subst e
          rw [pk_us, b_or, c1 t' ht' v hv y, Bool.or_true]
        · exact ec_or_le (c3 t' (by omega) hk he v hv y)
    · refine br_f (fun y => z ((ec_tst ht').mp y)) (nm_r (nI_1 t) (ih (t + 1) _ (by omega) S c1 c2 ?_))
      intro t' hl hk he v hv y
      by_cases e : t' = t
      · subst e
        exfalso
        apply z
        apply c1 i hi t' ht'
        apply ec_F_le (k := 1) (by omega)
        refine ⟨hk, ?_⟩
        rcases he with q | q
        · exact Or.inl (Or.inl q)
        · exact Or.inr (Or.inl q)
      · exact c3 t' (by omega) hk he v hv y
theorem ec_y61 {post : SY → Prop} {J53 : Int32 → (Nat → Int32) → (Nat → Int32) → (Nat → Int32) → (Nat → Int32) → (Nat → Int32) → (Nat → Int32) → (Nat → Int32) → (Nat → Int32) → Prop} {k : Nat}
    (H : ∀ on', ec_Snd K (ec_ix A) (ec_ix B) on' → (∀ w, w < 12 → ec_Cm K (ec_ix A) (ec_ix B) on' (k + 2) w) → J53 (nI (k + 1)) K O A B C V bY on')
    (HA : ec_Ok A) (HB : ec_Ok B) :
    ∀ d i on, i + d = 12 → ec_Snd K (ec_ix A) (ec_ix B) on → (∀ w, w < 12 → ec_Cm K (ec_ix A) (ec_ix B) on (k + 1) w) → (∀ w, w < i → ec_Cm K (ec_ix A) (ec_ix B) on (k + 2) w) →
      wY_findHanging_61 post J53 (nI k) (d + 1) (nI i) K O A B C V bY on := by
  intro d
  induction d with
  | zero =>
    intro t on ht S c1 c2
    obtain rfl : t = 12 := by omega
    exact br_t ec_12 (nm_r (nI_1 k) (H on S c2))
  | succ d ih =>
    intro i on hi S c1 c2
    have hi' : i < 12 := by omega
    refine br_f (ec_ge hi') ⟨13, ec_y69 hi' (fun on' S' d1 d2 => ih (i + 1) on' (by omega) S' d1 d2) HA HB 12 0 on rfl S c1 c2 ?_⟩
    intro t' hl
    omega
theorem ec_y53 {post : SY → Prop}
    (H : ∀ on', ec_Snd K (ec_ix A) (ec_ix B) on' → (∀ w, w < 12 → ec_Cm K (ec_ix A) (ec_ix B) on' 13 w) → post (K, O, A, B, C, V, bY, on'))
    (HA : ec_Ok A) (HB : ec_Ok B) :
    ∀ d k on, k + d = 12 → ec_Snd K (ec_ix A) (ec_ix B) on → (∀ w, w < 12 → ec_Cm K (ec_ix A) (ec_ix B) on (k + 1) w) →
      wY_findHanging_53 post (d + 1) (nI k) K O A B C V bY on := by
  intro d
  induction d with
  | zero =>
    intro t on ht S c1
    obtain rfl : t = 12 := by omega
    exact br_t ec_12 (H on S c1)
  | succ d ih =>
    intro k on hk S c1
    refine br_f (ec_ge (by omega)) ⟨13, ec_y61 (fun on' S' d1 => ih (k + 1) on' (by omega) S' d1) HA HB 12 0 on rfl S c1 ?_⟩
    intro w hl
    omega
theorem ec_y2 {post : SY → Prop}
    (H : ∀ on', ec_Snd K (ec_ix A) (ec_ix B) on' → (∀ w, w < 12 → ec_Cm K (ec_ix A) (ec_ix B) on' 13 w) → post (K, O, A, B, C, V, bY, on'))
    (HA : ec_Ok A) (HB : ec_Ok B) :
    ∀ d i on, i + d = 12 → (∀ w, w < i → ∀ t, t < 12 → (bt (on w) t = true ↔ ec_F K (ec_ix A) (ec_ix B) t 1 w)) →
      wY_findHanging_2 post (d + 1) (nI i) K O A B C V bY on := by
  intro d
  induction d with
  | zero =>
    intro i on hi c
    obtain rfl : i = 12 := by omega
    refine br_t ec_12 ⟨13, ec_y53 H HA HB 12 0 on rfl ?_ ?_⟩
    · exact fun w hw t ht y => ⟨1, (c w hw t ht).mp y⟩
    · exact fun w hw t ht y => (c w hw t ht).mpr y
  | succ d ih =>
    intro i on hi c
    have hi' : i < 12 := by omega
    have I := ec_in hi'
    have ea := ec_ixe HA hi'
    have eb := ec_ixe HB hi'
    rw [wY_findHanging_2]
    dsimp only
    rw [ec_cl hi']
    refine br_f (ec_ge hi') ⟨I, ?_⟩
    by_cases z : K i = 1
    · refine br_t z ⟨I, I, I, nm_e (nm_r (nI_1 i) (ih (i + 1) _ (by omega) ?_))⟩
      intro w hw t ht
      by_cases e : w = i
      · subst e
        rw [pk_us, ea.2, eb.2, b_or, ec_one _ ea.1 t (by omega), ec_one _ eb.1 t (by omega), Bool.or_eq_true, decide_eq_true_eq, decide_eq_true_eq]
        constructor
        · rintro (y | y)
          · exact ⟨z, Or.inl (Or.inl y.symm)⟩
          · exact ⟨z, Or.inr (Or.inl y.symm)⟩
        · rintro ⟨_, (y | y) | (y | y)⟩
          · exact Or.inl y.symm
          · exact y.elim
          · exact Or.inr y.symm
          · exact y.elim
      · rw [pk_un e]
        exact c w (by omega) t ht
    · refine br_f z ⟨I, nm_e (nm_r (nI_1 i) (ih (i + 1) _ (by omega) ?_))⟩
      intro w hw t ht
      by_cases e : w = i
      · subst e
        rw [pk_us, b_0]
        constructor
        · intro y; exact absurd y (by decide)
        · intro y; exact absurd y.1 z
      · rw [pk_un e]
        exact c w (by omega) t ht
theorem ec_yfh {post : SY → Prop} (HA : ec_Ok A) (HB : ec_Ok B)
    (H : ∀ on', ec_Snd K (ec_ix A) (ec_ix B) on' → (∀ w, w < 12 → ec_Cm K (ec_ix A) (ec_ix B) on' 13 w) → post (K, O, A, B, C, V, bY, on')) :
    wpY_findHanging post (K, O, A, B, C, V, bY, on) := ⟨13, ec_y2 H HA HB 12 0 on rfl (fun w hw => by omega)⟩
end ECY
