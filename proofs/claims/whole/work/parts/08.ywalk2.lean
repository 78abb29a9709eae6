/-! ===== the reference's walks: circle, change, pulses, hanging, depth ===== -/
section ECY2
variable {K V O A B C bY on : Nat → Int32} {s : Nat}
theorem ec_yhc6 {post : Int32 → SY → Prop} (H1 : (∃ w, w < 12 ∧ bt (on w) w = true) → post 1 (K, O, A, B, C, V, bY, on))
    (H0 : (∀ w, w < 12 → ¬ bt (on w) w = true) → post 0 (K, O, A, B, C, V, bY, on)) :
    ∀ d i, i + d = 12 → (∀ w, w < i → ¬ bt (on w) w = true) → wY_hasCircle_6 post K O A B C V bY on (d + 1) (nI i) := by
  intro d
  induction d with
  | zero =>
    intro i hi c
    obtain rfl : i = 12 := by omega
    exact br_t ec_12 (H0 c)
  | succ d ih =>
    intro i hi c
    have hi' : i < 12 := by omega
    rw [wY_hasCircle_6]
    dsimp only
    rw [ec_cl hi']
    refine br_f (ec_ge hi') ⟨ec_in hi', ?_⟩
    by_cases z : bt (on i) i = true
    · exact br_t ((ec_tst hi').mpr z) (H1 ⟨i, hi', z⟩)
    · refine br_f (fun y => z ((ec_tst hi').mp y)) (nm_r (nI_1 i) (ih (i + 1) (by omega) ?_))
      intro w hw
      by_cases e : w = i
      · rw [e]; exact z
      · exact c w (by omega)
theorem ec_yhc {post : Int32 → SY → Prop} (HA : ec_Ok A) (HB : ec_Ok B)
    (H : ∀ on', (∃ w k, w < 12 ∧ ec_F K (ec_ix A) (ec_ix B) w k w) → post 1 (K, O, A, B, C, V, bY, on'))
    (H0 : ∀ on', (∀ w, w < 12 → ¬ ec_F K (ec_ix A) (ec_ix B) w 13 w) → post 0 (K, O, A, B, C, V, bY, on')) :
    wpY_hasCircle post (K, O, A, B, C, V, bY, on) := by
  refine ec_yfh (post := fun u => match u with | (k, o, a, b, c, v, y, n) => (∃ n6 : Nat, wY_hasCircle_6 post k o a b c v y n n6 0)) HA HB fun on' S c => ?_
  refine ⟨13, ec_yhc6 ?_ ?_ 12 0 rfl (fun w hw => by omega)⟩
  · rintro ⟨w, hw, y⟩
    obtain ⟨k, hk⟩ := S w hw w hw y
    exact H on' ⟨w, k, hw, hk⟩
  · exact fun y => H0 on' (fun w hw z => y w hw (c w hw w hw z))
theorem ec_ygive {post : SY → Prop} (hs : s < 12) {k o a b : Int32} (H : post (upd K s k, upd O s o, upd A s a, upd B s b, C, V, bY, on)) :
    wpY_give post (K, O, A, B, C, V, bY, on) (nI s) k o a b := by
  have I := ec_in hs
  unfold wpY_give
  dsimp only
  rw [ec_cl hs]
  exact ⟨I, nm_e ⟨I, nm_e ⟨I, nm_e ⟨I, nm_e H⟩⟩⟩⟩
/-! change -/
theorem ec_y89e {post : Int32 → SY → Prop} (HA : ec_Ok A) (HB : ec_Ok B) (hs : s < 12) {x x3 c : Int32} {W : Nat → Int32} {n : Nat}
    (H : post c (K, O, A, B, C, ec_se K (ec_ix A) (ec_ix B) O (upd W s x) 12, bY, on)) : wY_change_89 post (nI s) x x3 (n + 1) c (nI 12) K O A B C W bY on := by
  rw [wY_change_89]
  dsimp only
  rw [ec_cl hs]
  exact br_t ec_12 ⟨ec_in hs, nm_e (ec_ysettle HA HB H)⟩
theorem ec_y89n {post : Int32 → SY → Prop} (HA : ec_Ok A) (HB : ec_Ok B) (hs : s < 12) {x c : Int32} {W : Nat → Int32}
    (H : post c (K, O, A, B, C, ec_se K (ec_ix A) (ec_ix B) O (upd W s x) 12, bY, on)) :
    ∀ d i, i + d = 12 → wY_change_89 post (nI s) x 0 (d + 1) c (nI i) K O A B C W bY on := by
  intro d
  induction d with
  | zero =>
    intro i hi
    obtain rfl : i = 12 := by omega
    exact ec_y89e HA HB hs H
  | succ d ih =>
    intro i hi
    exact br_f (ec_ge (by omega)) (br_t rfl (nm_r (nI_1 i) (ih (i + 1) (by omega))))
theorem ec_y89y {post : Int32 → SY → Prop} (HA : ec_Ok A) (HB : ec_Ok B) (hs : s < 12) {x : Int32}
    (ho : ∀ j, j < 12 → on j = ec_g (O j) (V (ec_ix A j)) (V (ec_ix B j)))
    (H : post (nI (ec_cnt (fun r => decide (K r = 2 ∧ C r = nI s) && !decide (V r = ec_g (O r) (V (ec_ix A r)) (V (ec_ix B r)))) 12)) (K, O, A, B, C, ec_se K (ec_ix A) (ec_ix B) O (upd (ec_ck K (ec_ix A) (ec_ix B) O C (nI s) V 12) s x) 12, bY, on)) :
    ∀ d i, i + d = 12 → wY_change_89 post (nI s) x 1 (d + 1) (nI (ec_cnt (fun r => decide (K r = 2 ∧ C r = nI s) && !decide (V r = ec_g (O r) (V (ec_ix A r)) (V (ec_ix B r)))) i)) (nI i) K O A B C (ec_ck K (ec_ix A) (ec_ix B) O C (nI s) V i) bY on := by
  intro d
  induction d with
  | zero =>
    intro i hi
    obtain rfl : i = 12 := by omega
    exact ec_y89e HA HB hs H
  | succ d ih =>
    intro i hi
    have hi' : i < 12 := by omega
    have I := ec_in hi'
    have n := ih (i + 1) (by omega)
    have ev : ec_ck K (ec_ix A) (ec_ix B) O C (nI s) V i i = V i := ec_ck_hi i i (Nat.le_refl i)
    rw [wY_change_89]
    dsimp only
    unfold wY_change_142
    rw [ec_cl hi', ev, ho i hi']
    refine br_f (ec_ge hi') (br_f (by decide) ⟨I, ?_⟩)
    by_cases z : K i = 2
    · by_cases y : C i = nI s
      · have es : ec_ck K (ec_ix A) (ec_ix B) O C (nI s) V (i + 1) = upd (ec_ck K (ec_ix A) (ec_ix B) O C (nI s) V i) i (ec_g (O i) (V (ec_ix A i)) (V (ec_ix B i))) := if_pos ⟨z, y⟩
        rw [es] at n
        refine br_t z ⟨I, br_t y ⟨I, I, ?_⟩⟩
        by_cases q : V i = ec_g (O i) (V (ec_ix A i)) (V (ec_ix B i))
        · rw [ec_cnt_f (by simp [← q])] at n
          exact br_t q ⟨I, I, nm_e (nm_r (nI_1 i) n)⟩
        · rw [ec_cnt_t (by simp [q, z, y])] at n
          exact br_f q (nm_r (nI_1 _) ⟨I, I, nm_e (nm_r (nI_1 i) n)⟩)
      · have es : ec_ck K (ec_ix A) (ec_ix B) O C (nI s) V (i + 1) = ec_ck K (ec_ix A) (ec_ix B) O C (nI s) V i := if_neg (fun w => y w.2)
        rw [es, ec_cnt_f (by simp [y])] at n
        exact br_t z ⟨I, br_f y (nm_r (nI_1 i) n)⟩
    · have es : ec_ck K (ec_ix A) (ec_ix B) O C (nI s) V (i + 1) = ec_ck K (ec_ix A) (ec_ix B) O C (nI s) V i := if_neg (fun w => z w.1)
      rw [es, ec_cnt_f (by simp [z])] at n
      exact br_f z (nm_r (nI_1 i) n)
theorem ec_y60 {post : Int32 → SY → Prop} (HA : ec_Ok A) (HB : ec_Ok B) {x x3 x4 : Int32}
    (H : ∀ on', (∀ j, j < 12 → on' j = ec_g (O j) (V (ec_ix A j)) (V (ec_ix B j))) → ∃ n89 : Nat, wY_change_89 post (nI s) x x3 n89 x4 0 K O A B C V bY on') :
    ∀ d i on, i + d = 12 → (∀ j, j < i → on j = ec_g (O j) (V (ec_ix A j)) (V (ec_ix B j))) → wY_change_60 post (nI s) x x3 x4 (d + 1) (nI i) K O A B C V bY on := by
  intro d
  induction d with
  | zero =>
    intro i on hi c
    obtain rfl : i = 12 := by omega
    exact br_t ec_12 (H on c)
  | succ d ih =>
    intro i on hi c
    have hi' : i < 12 := by omega
    have n := ih (i + 1) (upd on i (ec_g (O i) (V (ec_ix A i)) (V (ec_ix B i)))) (by omega) (fun j hj => by
      by_cases e : j = i
      · rw [e]; exact pk_us
      · rw [pk_un e]; exact c j (by omega))
    rw [wY_change_60]
    dsimp only
    rw [ec_cl hi']
    exact br_f (ec_ge hi') (ec_yfor HA HB hi' ⟨ec_in hi', nm_e (nm_r (nI_1 i) n)⟩)
theorem ec_y30 {post : Int32 → SY → Prop} {x x3 x4 : Int32}
    (H : ∀ bY', (∀ j, j < 12 → bY' j = V j) → ∃ n60 : Nat, wY_change_60 post (nI s) x x3 x4 n60 0 K O A B C V bY' on) :
    ∀ d i bY, i + d = 12 → (∀ j, j < i → bY j = V j) → wY_change_30 post (nI s) x x3 x4 (d + 1) (nI i) K O A B C V bY on := by
  intro d
  induction d with
  | zero =>
    intro i bY hi c
    obtain rfl : i = 12 := by omega
    exact br_t ec_12 (H bY c)
  | succ d ih =>
    intro i bY hi c
    have hi' : i < 12 := by omega
    have I := ec_in hi'
    have n := ih (i + 1) (upd bY i (V i)) (by omega) (fun j hj => by
      by_cases e : j = i
      · rw [e]; exact pk_us
      · rw [pk_un e]; exact c j (by omega))
    rw [wY_change_30]
    dsimp only
    rw [ec_cl hi']
    exact br_f (ec_ge hi') ⟨I, I, nm_e (nm_r (nI_1 i) n)⟩
theorem ec_ych {post : Int32 → SY → Prop} (HA : ec_Ok A) (HB : ec_Ok B) (hs : s < 12) {x : Int32} (hv : ∃ n, n < 16 ∧ V s = nI n) (hx : ∃ n, n < 16 ∧ x = nI n)
    (H : ∀ bY' on', (∀ j, j < 12 → bY' j = V j) → post (nI (ec_rc K (ec_ix A) (ec_ix B) O C s x V)) (K, O, A, B, C, ec_ch K (ec_ix A) (ec_ix B) O C s x V, bY', on')) :
    wpY_change post (K, O, A, B, C, V, bY, on) (nI s) x := by
  obtain ⟨m, hm, ev⟩ := hv
  obtain ⟨m', hm', rfl⟩ := hx
  have pv := (ec_par m hm).1
  have px := (ec_par m' hm').2
  rw [← ev] at pv
  have N : ec_up (V s) (nI m') = false → ∃ n30 : Nat, wY_change_30 post (nI s) (nI m') 0 0 n30 0 K O A B C V bY on := by
    intro u
    refine ⟨13, ec_y30 (fun b1 hb1 => ⟨13, ec_y60 HA HB (fun o1 ho1 => ⟨13, ec_y89n HA HB hs ?_ 12 0 rfl⟩) 12 0 on rfl (fun j hj => by omega)⟩) 12 0 bY rfl (fun j hj => by omega)⟩
    have Hb := H b1 o1 hb1
    have e : ec_rc K (ec_ix A) (ec_ix B) O C s (nI m') V = 0 := by
      unfold ec_rc
      rw [u]
      exact (ec_cnt_eq (q := fun _ => false) 12 (fun t _ => rfl)).trans (by decide)
    unfold ec_ch ec_cv at Hb
    rw [e, if_neg (by rw [u]; decide)] at Hb
    exact Hb
  have Y : ec_up (V s) (nI m') = true → ∃ n30 : Nat, wY_change_30 post (nI s) (nI m') 1 0 n30 0 K O A B C V bY on := by
    intro u
    refine ⟨13, ec_y30 (fun b1 hb1 => ⟨13, ec_y60 HA HB (fun o1 ho1 => ⟨13, ec_y89y HA HB hs ho1 ?_ 12 0 rfl⟩) 12 0 on rfl (fun j hj => by omega)⟩) 12 0 bY rfl (fun j hj => by omega)⟩
    have Hb := H b1 o1 hb1
    unfold ec_ch ec_cv ec_rc at Hb
    rw [if_pos u] at Hb
    simp only [u, Bool.true_and] at Hb
    exact Hb
  unfold wpY_change
  dsimp only
  rw [ec_cl hs]
  refine ⟨ec_in hs, by decide, ?_⟩
  by_cases z : V s &&& 1 = 0
  · refine br_t (pv.mpr z) ⟨by decide, ?_⟩
    by_cases y : nI m' &&& 1 = 1
    · exact br_t (px.mpr y) (Y (by unfold ec_up; simp [z, y]))
    · exact br_f (fun q => y (px.mp q)) (N (by unfold ec_up; simp [y]))
  · exact br_f (fun q => z (pv.mp q)) (N (by unfold ec_up; simp [z]))
theorem ec_yset26 {post : Int32 → SY → Prop} (H : post (nI (ec_cnt (fun i => !decide (V i = bY i)) 12)) (K, O, A, B, C, V, bY, on)) :
    ∀ d i, i + d = 12 → wY_set_26 post K O A B C V bY on (d + 1) (nI (ec_cnt (fun i => !decide (V i = bY i)) i)) (nI i) := by
  intro d
  induction d with
  | zero =>
    intro i hi
    obtain rfl : i = 12 := by omega
    exact br_t ec_12 H
  | succ d ih =>
    intro i hi
    have hi' : i < 12 := by omega
    have I := ec_in hi'
    have n := ih (i + 1) (by omega)
    rw [wY_set_26]
    dsimp only
    rw [ec_cl hi']
    refine br_f (ec_ge hi') ⟨I, I, ?_⟩
    by_cases z : V i = bY i
    · rw [ec_cnt_f (by simp [z])] at n
      exact br_t z (nm_r (nI_1 i) n)
    · rw [ec_cnt_t (by simp [z])] at n
      exact br_f z (nm_r (nI_1 _) (nm_r (nI_1 i) n))
theorem ec_pv15 {f h : Nat → Nat} (hf : ec_In f) (hh : ec_In h) (H : ec_V15 V) {x y : Int32} (hx : ∃ n, n < 16 ∧ x = nI n) (hy : ∃ n, n < 16 ∧ y = nI n) : ∀ k, ec_V15 (ec_pv K f h O C s x y V k) := by
  intro k
  induction k with
  | zero => exact H
  | succ k ih => exact ec_ch15 hf hh (ec_ch15 hf hh ih hx) hy
theorem ec_ypu {post : Int32 → SY → Prop} (HA : ec_Ok A) (HB : ec_Ok B) (hs : s < 12) {x y : Int32} {T : Nat} (hT : T ≤ 16) (H15 : ec_V15 V) (hx : ∃ n, n < 16 ∧ x = nI n) (hy : ∃ n, n < 16 ∧ y = nI n)
    (H : ∀ bY' on', post (nI (ec_pc K (ec_ix A) (ec_ix B) O C s x y V T)) (K, O, A, B, C, ec_pv K (ec_ix A) (ec_ix B) O C s x y V T, bY', on')) :
    ∀ d k bY on, k + d = T → wY_pulse_52 post (nI s) x (nI T) y (d + 1) (nI (ec_pc K (ec_ix A) (ec_ix B) O C s x y V k)) (nI k) K O A B C (ec_pv K (ec_ix A) (ec_ix B) O C s x y V k) bY on := by
  intro d
  induction d with
  | zero =>
    intro k bY on hk
    obtain rfl : k = T := by omega
    exact br_t (nI_le (Nat.le_refl k) (by omega)) (H bY on)
  | succ d ih =>
    intro k bY on hk
    have h1 : ¬ nI T ≤ nI k := nI_ge (by omega) (by omega)
    have hf := ec_ixin HA
    have hh := ec_ixin HB
    have r1 : ec_V15 (ec_pv K (ec_ix A) (ec_ix B) O C s x y V k) := ec_pv15 hf hh H15 hx hy k
    have r2 : ec_V15 (ec_ch K (ec_ix A) (ec_ix B) O C s x (ec_pv K (ec_ix A) (ec_ix B) O C s x y V k)) := ec_ch15 hf hh r1 hx
    refine br_f h1 (ec_ych HA HB hs (r1 s hs) hx fun b1 o1 _ => nm_r (nI_add _ _) (ec_ych HA HB hs (r2 s hs) hy fun b2 o2 _ => nm_r (nI_add _ _) (nm_r (nI_1 k) ?_)))
    exact ih (k + 1) b2 o2 (by omega)
/-! hanging -/
theorem ec_yh18 {post : Int32 → SY → Prop} (hs : s < 12)
    (H : ∀ r, (∀ i, i < 32 → (bt r i = true ↔ (i < 12 ∧ bt (on i) s = true))) → post r (K, O, A, B, C, V, bY, on)) :
    ∀ d j x2, j + d = 12 → (∀ i, i < 32 → (bt x2 i = true ↔ (i < j ∧ bt (on i) s = true))) → wY_hanging_18 post (nI s) K O A B C V bY on (d + 1) x2 (nI j) := by
  intro d
  induction d with
  | zero =>
    intro j x2 hj hx
    obtain rfl : j = 12 := by omega
    exact br_t ec_12 (H x2 hx)
  | succ d ih =>
    intro j x2 hj hx
    have hj' : j < 12 := by omega
    rw [wY_hanging_18]
    dsimp only
    rw [ec_cl hj']
    refine br_f (ec_ge hj') ⟨ec_in hj', ?_⟩
    by_cases z : bt (on j) s = true
    · refine br_t ((ec_tst hs).mpr z) (nm_e (nm_r (nI_1 j) (ih (j + 1) _ (by omega) ?_)))
      intro i hi
      rw [b_or, ec_one j hj' i hi, Bool.or_eq_true, hx i hi, decide_eq_true_eq]
      constructor
      · rintro (c | rfl)
        · exact ⟨by omega, c.2⟩
        · exact ⟨by omega, z⟩
      · rintro ⟨c1, c2⟩
        by_cases e : i = j
        · exact Or.inr e
        · exact Or.inl ⟨by omega, c2⟩
    · refine br_f (fun y => z ((ec_tst hs).mp y)) (nm_r (nI_1 j) (ih (j + 1) _ (by omega) ?_))
      intro i hi
      rw [hx i hi]
      constructor
      · rintro ⟨c1, c2⟩
        exact ⟨by omega, c2⟩
      · rintro ⟨c1, c2⟩
        by_cases e : i = j
        · subst e; exact absurd c2 z
        · exact ⟨by omega, c2⟩
/-! depth -/
theorem ec_y111 {post : Int32 → SY → Prop} {J25 J33 : Int32 → Int32 → (Nat → Int32) → (Nat → Int32) → (Nat → Int32) → (Nat → Int32) → (Nat → Int32) → (Nat → Int32) → (Nat → Int32) → (Nat → Int32) → Prop} {x2 : Int32} {m z i : Nat} (hi : i < 12) (hm : m ≤ 12) (hz : z ≤ 12)
    (ez : on i = nI z) (H : J33 (nI (max m z)) (nI (i + 1)) K O A B C V bY on) : wY_depth_111 post J25 J33 (nI m) x2 (nI i) K O A B C V bY on := by
  have I := ec_in hi
  unfold wY_depth_111
  rw [ec_cl hi, ez]
  refine ⟨I, ?_⟩
  by_cases c : z ≤ m
  · rw [show max m z = m by omega] at H
    exact br_t ((nI_leI (by omega) (by omega)).mpr c) (nm_r (nI_1 i) H)
  · rw [show max m z = z by omega] at H
    exact br_f (fun y => c ((nI_leI (by omega) (by omega)).mp y)) ⟨I, nm_e (nm_r (nI_1 i) H)⟩
theorem ec_y33 {post : Int32 → SY → Prop} {J25 : Int32 → Int32 → (Nat → Int32) → (Nat → Int32) → (Nat → Int32) → (Nat → Int32) → (Nat → Int32) → (Nat → Int32) → (Nat → Int32) → (Nat → Int32) → Prop} (HA : ec_Ok A) (HB : ec_Ok B)
    {rk dp : Nat → Nat} (R : ec_Rk K (ec_ix A) (ec_ix B) rk) (D : ec_Dep K (ec_ix A) (ec_ix B) dp) {k : Nat}
    (H : ∀ q m on', (∀ j, j < 12 → on' j = nI (q j)) → ec_Q K rk dp q m (k + 1) 0 → J25 (nI m) (nI (k + 1)) K O A B C V bY on') :
    ∀ d i q m on, i + d = 12 → (∀ j, j < 12 → on j = nI (q j)) → ec_Q K rk dp q m k i → wY_depth_33 post J25 (nI k) (d + 1) (nI m) (nI i) K O A B C V bY on := by
  intro d
  induction d with
  | zero =>
    intro i q m on hi ho Q
    obtain rfl : i = 12 := by omega
    exact br_t ec_12 (nm_r (nI_1 k) (H q m on ho (ec_Q_r Q)))
  | succ d ih =>
    intro i q m on hi ho Q
    have hi' : i < 12 := by omega
    have I := ec_in hi'
    have fa := ec_ixin HA i hi'
    have fb := ec_ixin HB i hi'
    have e12 : ec_mx dp 12 ≤ 12 := ec_mx_le dp 12 D.1
    have hm : m ≤ 12 := Nat.le_trans Q.2 e12
    have qa : q (ec_ix A i) ≤ 12 := Nat.le_trans (Q.1 _ fa).1 (D.1 _ fa)
    have qb : q (ec_ix B i) ≤ 12 := Nat.le_trans (Q.1 _ fb).1 (D.1 _ fb)
    have oa : on (A i).toNatClampNeg = nI (q (ec_ix A i)) := ho _ fa
    have ob : on (B i).toNatClampNeg = nI (q (ec_ix B i)) := ho _ fb
    have key : wY_depth_89 post J25 (wY_depth_33 post J25 (nI k) (d + 1)) (nI m) (nI k) (nI i) (nI (max (q (ec_ix A i)) (q (ec_ix B i)))) K O A B C V bY on := by
      unfold wY_depth_89
      rw [ec_cl hi', nI_1]
      refine ⟨I, ?_⟩
      by_cases z : K i = 1
      · have Q' := ec_Q_y (ec_ixin HA) (ec_ixin HB) R D hi' z Q rfl rfl
        have le1 : max (q (ec_ix A i)) (q (ec_ix B i)) + 1 ≤ 12 := by
          have a := (Q'.1 i hi').1
          have b := D.1 i hi'
          dsimp only at a
          rw [if_pos rfl] at a
          omega
        refine br_t z ⟨I, nm_e (ec_y111 hi' hm le1 pk_us (ih (i + 1) _ _ _ (by omega) ?_ Q'))⟩
        intro j hj
        by_cases e : j = i
        · rw [e, pk_us, if_pos rfl]
        · rw [pk_un e, if_neg e]; exact ho j hj
      · have qi : q i ≤ m := (Q.1 i hi').2.1
        have n := ih (i + 1) q m on (by omega) ho (ec_Q_n z Q)
        refine br_f z (ec_y111 hi' hm (by omega) (ho i hi') ?_)
        rw [show max m (q i) = m by omega]
        exact n
    rw [wY_depth_33]
    dsimp only
    rw [ec_cl hi', oa, ob]
    refine br_f (ec_ge hi') ⟨I, HA i hi', I, HB i hi', ?_⟩
    by_cases c : q (ec_ix A i) ≤ q (ec_ix B i)
    · rw [show max (q (ec_ix A i)) (q (ec_ix B i)) = q (ec_ix B i) by omega] at key
      exact br_t ((nI_leI (by omega) (by omega)).mpr c) ⟨I, HB i hi', key⟩
    · rw [show max (q (ec_ix A i)) (q (ec_ix B i)) = q (ec_ix A i) by omega] at key
      exact br_f (fun y => c ((nI_leI (by omega) (by omega)).mp y)) ⟨I, HA i hi', key⟩
theorem ec_y25 {post : Int32 → SY → Prop} (HA : ec_Ok A) (HB : ec_Ok B)
    {rk dp : Nat → Nat} (R : ec_Rk K (ec_ix A) (ec_ix B) rk) (hr : ∀ i, i < 12 → rk i < 12) (D : ec_Dep K (ec_ix A) (ec_ix B) dp)
    (H : ∀ on', post (nI (ec_mx dp 12)) (K, O, A, B, C, V, bY, on')) :
    ∀ d k q m on, k + d = 12 → (∀ j, j < 12 → on j = nI (q j)) → ec_Q K rk dp q m k 0 → wY_depth_25 post (d + 1) (nI m) (nI k) K O A B C V bY on := by
  intro d
  induction d with
  | zero =>
    intro k q m on hk ho Q
    obtain rfl : k = 12 := by omega
    rw [ec_Q_e hr Q]
    exact br_t ec_12 (H on)
  | succ d ih =>
    intro k q m on hk ho Q
    exact br_f (ec_ge (by omega)) ⟨13, ec_y33 HA HB R D (fun q' m' on' ho' Q' => ih (k + 1) q' m' on' (by omega) ho' Q') 12 0 q m on rfl ho Q⟩
theorem ec_yd4 {post : Int32 → SY → Prop} {x1 : Int32}
    (H : ∀ on', (∀ j, j < 12 → on' j = 0) → ∃ n25 : Nat, wY_depth_25 post n25 x1 0 K O A B C V bY on') :
    ∀ d i on, i + d = 12 → (∀ j, j < i → on j = 0) → wY_depth_4 post x1 (d + 1) (nI i) K O A B C V bY on := by
  intro d
  induction d with
  | zero =>
    intro i on hi c
    obtain rfl : i = 12 := by omega
    exact br_t ec_12 (H on c)
  | succ d ih =>
    intro i on hi c
    have hi' : i < 12 := by omega
    have I := ec_in hi'
    have n := ih (i + 1) (upd on i 0) (by omega) (fun j hj => by
      by_cases e : j = i
      · rw [e]; exact pk_us
      · rw [pk_un e]; exact c j (by omega))
    rw [wY_depth_4]
    dsimp only
    rw [ec_cl hi']
    exact br_f (ec_ge hi') ⟨I, nm_e (nm_r (nI_1 i) n)⟩
theorem ec_ydepth {post : Int32 → SY → Prop} (HA : ec_Ok A) (HB : ec_Ok B)
    {rk dp : Nat → Nat} (R : ec_Rk K (ec_ix A) (ec_ix B) rk) (D : ec_Dep K (ec_ix A) (ec_ix B) dp)
    (H : ∀ on', post (nI (ec_mx dp 12)) (K, O, A, B, C, V, bY, on')) : wpY_depth post (K, O, A, B, C, V, bY, on) := by
  obtain ⟨r, R', hr⟩ := ec_rk12 (ec_ixin HA) (ec_ixin HB) R
  refine ⟨13, ec_yd4 (fun on' ho => ⟨13, ec_y25 HA HB R' hr D H 12 0 (fun _ => 0) 0 on' rfl ho ?_⟩) 12 0 on rfl (fun j hj => by omega)⟩
  refine ⟨fun j hj => ⟨Nat.zero_le _, Nat.le_refl 0, fun c => ?_⟩, Nat.zero_le _⟩
  rcases c with c | c | c
  · exact (D.2.2 j hj c).symm
  · omega
  · omega
end ECY2
