/-! ===== the reference's wire, register, times of a pulse ===== -/
section ECW
variable {K V O A B C bY on : Nat → Int32} {s a b : Nat} {o : Int32}
theorem ec_ywb {post : Int32 → SY → Prop} {x y z : Int32} (c : ec_bo o ∨ ec_bs x ∨ ec_bs y ∨ ec_bs z) (H : post (-1) (K, O, A, B, C, V, bY, on)) :
    wpY_wire post (K, O, A, B, C, V, bY, on) x o y z := by
  unfold wpY_wire
  dsimp only
  refine br_c (fun _ => H) fun n1 => br_c (fun _ => H) fun n2 => ?_
  refine ec_ysig x (fun _ => br_t rfl H) fun s hs e1 => br_f (by decide) ?_
  refine ec_ysig y (fun _ => br_t rfl H) fun a ha e2 => br_f (by decide) ?_
  refine ec_ysig z (fun _ => br_t rfl H) fun b hb e3 => ?_
  exfalso
  subst e1 e2 e3
  rcases c with (c | c) | c | c | c
  · exact n1 c
  · exact n2 c
  · exact ec_nbs hs c
  · exact ec_nbs ha c
  · exact ec_nbs hb c
theorem ec_ysg {post : Int32 → Prop} (hs : s < 12) (H : post 1) : wpY_isSignal post (K, O, A, B, C, V, bY, on) (nI s) :=
  ec_ysig _ (fun c => absurd c (ec_nbs hs)) fun _ _ _ => H
theorem ec_yw0 {post : Int32 → SY → Prop} (hs : s < 12) (ha : a < 12) (hb : b < 12) (g1 : ¬ o < 0) (g2 : ¬ (8 : Int32) < o) {r : Int32} (hr : ¬ r = 0)
    (hY : ∀ post : Int32 → Prop, post r → wpY_isClock post (K, O, A, B, C, V, bY, on) (nI s)) (H : post (-3) (K, O, A, B, C, V, bY, on)) :
    wpY_wire post (K, O, A, B, C, V, bY, on) (nI s) o (nI a) (nI b) := by
  unfold wpY_wire
  dsimp only
  refine br_f g1 (br_f g2 ?_)
  refine ec_ysg hs (br_f (by decide) ?_)
  refine ec_ysg ha (br_f (by decide) ?_)
  refine ec_ysg hb (br_f (by decide) ?_)
  exact hY _ (br_f hr H)
theorem ec_yw1 {post : Int32 → SY → Prop} (HA : ec_Ok A) (HB : ec_Ok B) (hs : s < 12) (ha : a < 12) (hb : b < 12) (g1 : ¬ o < 0) (g2 : ¬ (8 : Int32) < o) {r : Int32} (hr : r = 0)
    (hY : ∀ post : Int32 → Prop, post r → wpY_isClock post (K, O, A, B, C, V, bY, on) (nI s))
    (F : ec_F (upd K s 1) (ec_ix (upd A s (nI a))) (ec_ix (upd B s (nI b))) s 13 s) (H : ∀ on', post (-2) (K, O, A, B, C, V, bY, on')) :
    wpY_wire post (K, O, A, B, C, V, bY, on) (nI s) o (nI a) (nI b) := by
  have I := ec_in hs
  unfold wpY_wire
  dsimp only
  rw [ec_cl hs]
  refine br_f g1 (br_f g2 ?_)
  refine ec_ysg hs (br_f (by decide) ?_)
  refine ec_ysg ha (br_f (by decide) ?_)
  refine ec_ysg hb (br_f (by decide) ?_)
  refine hY _ (br_t hr ⟨I, nm_e ⟨I, nm_e ⟨I, nm_e ⟨I, nm_e (ec_ygive hs ?_)⟩⟩⟩⟩)
  refine ec_yhc (ec_Ok_upd ha HA) (ec_Ok_upd hb HB) (fun on' _ => br_f (by decide) (ec_ygive hs ?_)) (fun on' c => absurd F (c s hs))
  rw [ec_uu, ec_uu, ec_uu, ec_uu]
  exact H on'
theorem ec_yw2 {post : Int32 → SY → Prop} (HA : ec_Ok A) (HB : ec_Ok B) (hs : s < 12) (ha : a < 12) (hb : b < 12) (g1 : ¬ o < 0) (g2 : ¬ (8 : Int32) < o) {r : Int32} (hr : r = 0)
    (hY : ∀ post : Int32 → Prop, post r → wpY_isClock post (K, O, A, B, C, V, bY, on) (nI s))
    (R : ∃ rk, ec_Rk (upd K s 1) (ec_ix (upd A s (nI a))) (ec_ix (upd B s (nI b))) rk)
    (H : ∀ on', post (ec_se (upd K s 1) (ec_ix (upd A s (nI a))) (ec_ix (upd B s (nI b))) (upd O s o) V 12 (nI s).toNatClampNeg) (upd K s 1, upd O s o, upd A s (nI a), upd B s (nI b), C, ec_se (upd K s 1) (ec_ix (upd A s (nI a))) (ec_ix (upd B s (nI b))) (upd O s o) V 12, bY, on')) :
    wpY_wire post (K, O, A, B, C, V, bY, on) (nI s) o (nI a) (nI b) := by
  have I := ec_in hs
  obtain ⟨rk, R⟩ := R
  have HA' := ec_Ok_upd (s := s) ha HA
  have HB' := ec_Ok_upd (s := s) hb HB
  rw [ec_cl hs] at H
  unfold wpY_wire
  dsimp only
  rw [ec_cl hs]
  refine br_f g1 (br_f g2 ?_)
  refine ec_ysg hs (br_f (by decide) ?_)
  refine ec_ysg ha (br_f (by decide) ?_)
  refine ec_ysg hb (br_f (by decide) ?_)
  refine hY _ (br_t hr ⟨I, nm_e ⟨I, nm_e ⟨I, nm_e ⟨I, nm_e (ec_ygive hs ?_)⟩⟩⟩⟩)
  refine ec_yhc HA' HB' (fun on' c => ?_) (fun on' _ => br_t rfl (ec_ysettle HA' HB' ⟨I, H on'⟩))
  obtain ⟨w, n, hw, hn⟩ := c
  exact absurd (ec_F_rk (ec_ixin HA') (ec_ixin HB') R n w hw hn) (Nat.lt_irrefl _)
theorem ec_yrb {post : Int32 → SY → Prop} {x y z : Int32} (c : ec_bo o ∨ ec_bs x ∨ ec_bs y ∨ z < 0 ∨ ¬ z < 144) (H : post (-1) (K, O, A, B, C, V, bY, on)) :
    wpY_register post (K, O, A, B, C, V, bY, on) x o y z := by
  unfold wpY_register
  dsimp only
  refine br_c (fun _ => H) fun n1 => br_c (fun _ => H) fun n2 => ?_
  refine ec_ysig x (fun _ => br_t rfl H) fun s hs e1 => br_f (by decide) ?_
  refine ec_ysig y (fun _ => br_t rfl H) fun a ha e2 => br_f (by decide) ?_
  refine br_c (fun _ => H) fun n3 => br_c (fun n4 => ?_) (fun _ => H)
  exfalso
  subst e1 e2
  rcases c with (c | c) | c | c | c | c
  · exact n1 c
  · exact n2 c
  · exact ec_nbs hs c
  · exact ec_nbs ha c
  · exact n3 c
  · obtain ⟨j, hj, rfl⟩ := nI_of2 (n := 143) (by decide) n3 n4
    exact c (nI_lt (b := 144) (by omega) (by decide))
theorem ec_yr0 {post : Int32 → SY → Prop} {j : Nat} (hs : s < 12) (ha : a < 12) (g1 : ¬ o < 0) (g2 : ¬ (8 : Int32) < o) (h4 : j < 144) {r : Int32}
    (c : ¬ K (j / 12) = 0 ∨ nI (j / 12) = nI s ∨ ¬ r = 0)
    (hY : ∀ post : Int32 → Prop, post r → wpY_isClock post (K, O, A, B, C, V, bY, on) (nI s)) (H : post (-3) (K, O, A, B, C, V, bY, on)) :
    wpY_register post (K, O, A, B, C, V, bY, on) (nI s) o (nI a) (nI j) := by
  have q1 : nI j / 12 = nI (j / 12) := pk_div (by omega) (d := 12) (by decide) (by decide)
  have hc : j / 12 < 12 := by omega
  unfold wpY_register
  dsimp only
  refine br_f g1 (br_f g2 ?_)
  refine ec_ysg hs (br_f (by decide) ?_)
  refine ec_ysg ha (br_f (by decide) ?_)
  refine br_f (nI_pos (by omega)) (br_t (nI_le (b := 143) (by omega) (by decide)) ⟨by decide, nm_r q1 ⟨ec_in hc, ?_⟩⟩)
  rw [ec_cl hc]
  by_cases z : K (j / 12) = 0
  · refine br_t z ?_
    by_cases e : nI (j / 12) = nI s
    · exact br_t e H
    · refine br_f e (hY _ (br_f ?_ H))
      rcases c with c | c | c
      · exact absurd z c
      · exact absurd c e
      · exact c
  · exact br_f z H
theorem ec_yr1 {post : Int32 → SY → Prop} {j : Nat} (hs : s < 12) (ha : a < 12) (g1 : ¬ o < 0) (g2 : ¬ (8 : Int32) < o) (h4 : j < 144) {r : Int32}
    (z : K (j / 12) = 0) (e : ¬ nI (j / 12) = nI s) (hr : r = 0)
    (hY : ∀ post : Int32 → Prop, post r → wpY_isClock post (K, O, A, B, C, V, bY, on) (nI s))
    (I' : ec_Inv (upd K s 2) V (upd O s o) (upd A s (nI a)) (upd B s (nI (j % 12))))
    (H : post (V s) (upd K s 2, upd O s o, upd A s (nI a), upd B s (nI (j % 12)), upd C s (nI (j / 12)), V, bY, on)) :
    wpY_register post (K, O, A, B, C, V, bY, on) (nI s) o (nI a) (nI j) := by
  have q1 : nI j / 12 = nI (j / 12) := pk_div (by omega) (d := 12) (by decide) (by decide)
  have q2 : nI j - nI j / 12 * 12 = nI (j % 12) := pk_rem (by omega) (d := 12) (by decide) (by decide)
  have hc : j / 12 < 12 := by omega
  unfold wpY_register
  dsimp only
  rw [q2]
  refine br_f g1 (br_f g2 ?_)
  refine ec_ysg hs (br_f (by decide) ?_)
  refine ec_ysg ha (br_f (by decide) ?_)
  refine br_f (nI_pos (by omega)) (br_t (nI_le (b := 143) (by omega) (by decide)) ⟨by decide, nm_r q1 ⟨ec_in hc, ?_⟩⟩)
  rw [ec_cl hc, ec_cl hs]
  refine br_t z (br_f e (hY _ (br_t hr ⟨by decide, ec_ygive hs ⟨ec_in hs, nm_e (ec_ysettle I'.1 I'.2.1 ?_)⟩⟩)))
  rw [ec_se_fix I'.2.2.2.1]
  exact ⟨ec_in hs, H⟩
end ECW
/-- how often a pulse goes: at least 0, at most 16 -/
theorem ec_times (n : Int32) : ∃ T : Nat, T ≤ 16 ∧ (∀ k, k < T → ¬ n ≤ nI k) ∧ (T = 16 ∨ n ≤ nI T) ∧
    ∀ P : Int32 → Prop, P (nI T) → ((0 ≤ n → (((n ≤ 16 → P n) ∧ (¬ n ≤ 16 → P 16)))) ∧ (¬ 0 ≤ n → P 0)) := by
  by_cases h : n < 0
  · refine ⟨0, by omega, fun k hk => by omega, Or.inr (Int32.le_of_lt h), fun P hP => br_f ?_ hP⟩
    exact Int32.not_le.mpr h
  · have h0 : 0 ≤ n := Int32.not_lt.mp h
    obtain ⟨j, hj, rfl⟩ := nI_of h
    by_cases c : j ≤ 16
    · refine ⟨j, c, fun k hk => nI_ge hk hj, Or.inr (nI_le (Nat.le_refl j) hj), fun P hP => br_t h0 (br_t (nI_le (b := 16) c (by decide)) hP)⟩
    · refine ⟨16, Nat.le_refl 16, fun k hk => nI_ge (by omega) hj, Or.inl rfl, fun P hP => br_t h0 (br_f (nI_ge (a := 16) (by omega) hj) hP)⟩
/-! ===== what is owed ===== -/
theorem i_up {k : Nat} {u : SX} {v : SY} (h : i_Rel k u v) : i_Rel (k + 5) u v := h
theorem ec_n1 : ¬ (0 : Int32) = 1 := by decide
theorem i_vc0 : wpX_init (fun u => wpY_init (fun v => i_Rel 0 u v)) := by
  show i_Rel 0 ((fun _ => 0), (fun _ => 0), (fun _ => 0), (fun _ => 0), (fun _ => 0), (fun _ => 0), (fun _ => 0)) ((fun _ => 0), (fun _ => 0), (fun _ => 0), (fun _ => 0), (fun _ => 0), (fun _ => 0), (fun _ => 0), (fun _ => 0))
  exact ec_rel ⟨fun i hi => ec_in (i := 0) (by decide), fun i hi => ec_in (i := 0) (by decide), fun i hi => ⟨0, by decide, rfl⟩, fun i hi hk => absurd hk ec_n1, fun _ => 0, fun i hi hk => absurd hk ec_n1⟩
theorem i_vc_wire {k : Nat} {u : SX} {v : SY} (I : i_Rel k u v) (hk : k + 5 ≤ 2560) (v1 : Int32) (v2 : Int32) (v3 : Int32) (v4 : Int32) : wpX_wire (fun r u' => wpY_wire (fun r' v' => r' = r ∧ i_Rel (k + 5) u' v') v v1 v2 v3 v4) u v1 v2 v3 v4 := by
  obtain ⟨K, V, O, A, B, C, bx, bY, on, rfl, rfl, I⟩ := I
  have J := I
  obtain ⟨HA, HB, H15, S, rk, R⟩ := J
  unfold wpX_wire
  dsimp only
  have bad : (ec_bo v2 ∨ ec_bs v1 ∨ ec_bs v3 ∨ ec_bs v4) → wpY_wire (fun r' v' => r' = -1 ∧ i_Rel (k + 5) (K, V, O, A, B, C, bx) v') (K, O, A, B, C, V, bY, on) v1 v2 v3 v4 := fun b => ec_ywb b ⟨rfl, ec_rel I⟩
  refine ec_xsig v1 (fun b => br_t rfl (bad (Or.inr (Or.inl b)))) fun s hs e1 => br_f (by decide) ?_
  refine ec_xop v2 (fun b => br_t rfl (bad (Or.inl b))) fun g1 g2 => br_f (by decide) ?_
  refine ec_xsig v3 (fun b => br_t rfl (bad (Or.inr (Or.inr (Or.inl b))))) fun a ha e3 => br_f (by decide) ?_
  refine ec_xsig v4 (fun b => br_t rfl (bad (Or.inr (Or.inr (Or.inr b))))) fun b hb e4 => br_f (by decide) ?_
  subst e1 e3 e4
  clear bad
  obtain ⟨r, hX, hY⟩ := ec_clk (nI s) K V O A B C bx bY on
  refine hX _ ?_
  by_cases hr : r = 0
  · refine br_t hr ?_
    refine ec_xcirc HA HB hs ha hb (fun nc => br_t rfl ?_) (fun cc => br_f (by decide) ?_)
    · have R' := ec_circ2 (K' := upd K s 1) (fun i n => pk_un n) (ec_ix_n (A := A) (x := nI a)) (ec_ix_n (A := B) (x := nI b)) (ec_ix_s ha) (ec_ix_s hb) ha hb (ec_ixin HA) (ec_ixin HB) R nc
      have I' := ec_Inv_wire (o := v2) I ha hb R'
      refine ⟨ec_in hs, nm_r (e' := upd K s 1) (by rw [ec_cl hs]) (ec_xput hs ?_)⟩
      refine ec_xsettle (ec_Ok_upd ha HA) (ec_Ok_upd hb HB) ⟨ec_in hs, ?_⟩
      exact ec_yw2 HA HB hs ha hb g1 g2 hr hY R' fun on' => ⟨rfl, ec_rel I'⟩
    · have F := ec_circ1 (K' := upd K s 1) (fun i n => pk_un n) (ec_ix_n (A := A) (x := nI a)) (ec_ix_n (A := B) (x := nI b)) pk_us (ec_ix_s ha) (ec_ix_s hb) ha hb (ec_ixin HA) (ec_ixin HB) R cc
      exact ec_yw1 HA HB hs ha hb g1 g2 hr hY F fun on' => ⟨rfl, ec_rel I⟩
  · exact br_f hr (ec_yw0 hs ha hb g1 g2 hr hY ⟨rfl, ec_rel I⟩)
theorem i_vc_register {k : Nat} {u : SX} {v : SY} (I : i_Rel k u v) (hk : k + 5 ≤ 2560) (v1 : Int32) (v2 : Int32) (v3 : Int32) (v4 : Int32) : wpX_register (fun r u' => wpY_register (fun r' v' => r' = r ∧ i_Rel (k + 5) u' v') v v1 v2 v3 v4) u v1 v2 v3 v4 := by
  obtain ⟨K, V, O, A, B, C, bx, bY, on, rfl, rfl, I⟩ := I
  have J := I
  obtain ⟨HA, HB, H15, S, rk, R⟩ := J
  unfold wpX_register
  dsimp only
  have bad : (ec_bo v2 ∨ ec_bs v1 ∨ ec_bs v3 ∨ v4 < 0 ∨ ¬ v4 < 144) → wpY_register (fun r' v' => r' = -1 ∧ i_Rel (k + 5) (K, V, O, A, B, C, bx) v') (K, O, A, B, C, V, bY, on) v1 v2 v3 v4 := fun b => ec_yrb b ⟨rfl, ec_rel I⟩
  refine ec_xsig v1 (fun b => br_t rfl (bad (Or.inr (Or.inl b)))) fun s hs e1 => br_f (by decide) ?_
  refine ec_xop v2 (fun b => br_t rfl (bad (Or.inl b))) fun g1 g2 => br_f (by decide) ?_
  refine ec_xsig v3 (fun b => br_t rfl (bad (Or.inr (Or.inr (Or.inl b))))) fun a ha e3 => br_f (by decide) ?_
  refine br_c (fun b => bad (Or.inr (Or.inr (Or.inr (Or.inl b))))) fun g3 => br_c (fun g4 => ?_) (fun b => bad (Or.inr (Or.inr (Or.inr (Or.inr b)))))
  subst e1 e3
  clear bad
  obtain ⟨j, hj, rfl⟩ := nI_of g3
  have h4 : j < 144 := (nI_ltI hj (b := 144) (by decide)).mp g4
  obtain ⟨r, hX, hY⟩ := ec_clk (nI s) K V O A B C bx bY on
  have q1 : nI j / 12 = nI (j / 12) := pk_div hj (d := 12) (by decide) (by decide)
  have q2 : nI j - nI j / 12 * 12 = nI (j % 12) := pk_rem hj (d := 12) (by decide) (by decide)
  have hc : j / 12 < 12 := by omega
  have hb : j % 12 < 12 := by omega
  refine ⟨by decide, nm_r q1 ⟨by decide, nm_r q2 ⟨ec_in hc, ?_⟩⟩⟩
  rw [ec_cl hc, ec_cl hs]
  by_cases z : K (j / 12) = 0
  · refine br_t z ?_
    by_cases e : nI (j / 12) = nI s
    · exact br_t e (ec_yr0 hs ha g1 g2 h4 (Or.inr (Or.inl e)) hY ⟨rfl, ec_rel I⟩)
    · refine br_f e (hX _ ?_)
      by_cases hr : r = 0
      · have A' := ec_Ok_upd (s := s) ha HA
        have B' := ec_Ok_upd (s := s) hb HB
        have I' : ec_Inv (upd K s 2) V (upd O s v2) (upd A s (nI a)) (upd B s (nI (j % 12))) := ec_Inv_sub I A' B' (fun i n => pk_un n) (fun i n => pk_un n) ec_ix_n ec_ix_n (by rw [pk_us]; decide)
        refine br_t hr ⟨ec_in hs, nm_e (ec_xput hs ⟨ec_in hs, nm_e ⟨ec_in hs, ?_⟩⟩)⟩
        exact ec_yr1 hs ha g1 g2 h4 z e hr hY I' ⟨rfl, ec_rel I'⟩
      · exact br_f hr (ec_yr0 hs ha g1 g2 h4 (Or.inr (Or.inr hr)) hY ⟨rfl, ec_rel I⟩)
  · exact br_f z (ec_yr0 hs ha g1 g2 h4 (Or.inl z) hY ⟨rfl, ec_rel I⟩)
theorem i_vc_free {k : Nat} {u : SX} {v : SY} (I : i_Rel k u v) (hk : k + 5 ≤ 2560) (v1 : Int32) : wpX_free (fun r u' => wpY_free (fun r' v' => r' = r ∧ i_Rel (k + 5) u' v') v v1) u v1 := by
  obtain ⟨K, V, O, A, B, C, bx, bY, on, rfl, rfl, I⟩ := I
  unfold wpX_free
  dsimp only
  refine ec_xsig v1 (fun b => br_t rfl ?_) fun s hs e1 => br_f (by decide) ?_
  · unfold wpY_free
    refine ec_ysig v1 (fun _ => br_t rfl ⟨rfl, ec_rel I⟩) fun s hs e => ?_
    rw [e] at b
    exact absurd b (ec_nbs hs)
  · subst e1
    have I' : ec_Inv (upd K s 0) V O A B := ec_Inv_sub I I.1 I.2.1 (fun i n => pk_un n) (fun i n => rfl) (fun i n => rfl) (fun i n => rfl) (by rw [pk_us]; decide)
    rw [ec_cl hs]
    refine ⟨ec_in hs, nm_e ⟨ec_in hs, ?_⟩⟩
    unfold wpY_free
    dsimp only
    refine ec_ysig _ (fun b => absurd b (ec_nbs hs)) fun _ _ _ => br_f (by decide) ?_
    rw [ec_cl hs]
    refine ⟨ec_in hs, nm_e (ec_ysettle I.1 I.2.1 ?_)⟩
    rw [ec_se_fix I'.2.2.2.1]
    exact ⟨ec_in hs, rfl, ec_rel I'⟩
theorem i_vc_set {k : Nat} {u : SX} {v : SY} (I : i_Rel k u v) (hk : k + 5 ≤ 2560) (v1 : Int32) (v2 : Int32) : wpX_set (fun r u' => wpY_set (fun r' v' => r' = r ∧ i_Rel (k + 5) u' v') v v1 v2) u v1 v2 := by
  obtain ⟨K, V, O, A, B, C, bx, bY, on, rfl, rfl, I⟩ := I
  obtain ⟨r, hX, hY, c⟩ := ec_stat v1 v2 K V O A B C bx bY on
  unfold wpX_set
  dsimp only
  refine hX _ ?_
  rcases c with ⟨hr, s, x, hs, rfl, hx, rfl, hk0⟩ | ⟨hr, hn⟩
  · have HA := I.1
    have HB := I.2.1
    have ex : ∃ n, n < 16 ∧ nI x = nI n := ⟨x, hx, rfl⟩
    refine br_t hr (ec_xci HA HB hs fun bx' hb => ⟨13, ec_xset25 ?_ 12 0 rfl⟩)
    unfold wpY_set
    refine hY _ (br_t (by rw [hr]; decide) ?_)
    refine ec_ych HA HB hs (I.2.2.1 s hs) ex fun bY' on' hb' => ⟨13, ec_yset26 ⟨?_, ec_rel (ec_Inv_ch I ex)⟩ 12 0 rfl⟩
    refine congrArg nI (ec_cnt_eq 12 fun t ht => ?_)
    show (!decide (ec_ch K (ec_ix A) (ec_ix B) O C s (nI x) V t = bY' t)) = (!decide (ec_ch K (ec_ix A) (ec_ix B) O C s (nI x) V t = bx' t))
    rw [hb t ht, hb' t ht]
  · refine br_f hr ?_
    unfold wpY_set
    exact hY _ (br_f hn ⟨rfl, ec_rel I⟩)
theorem i_vc_pulse {k : Nat} {u : SX} {v : SY} (I : i_Rel k u v) (hk : k + 5 ≤ 2560) (v1 : Int32) (v2 : Int32) (v3 : Int32) : wpX_pulse (fun r u' => wpY_pulse (fun r' v' => r' = r ∧ i_Rel (k + 5) u' v') v v1 v2 v3) u v1 v2 v3 := by
  obtain ⟨K, V, O, A, B, C, bx, bY, on, rfl, rfl, I⟩ := I
  obtain ⟨r, hX, hY, c⟩ := ec_stat v1 v2 K V O A B C bx bY on
  unfold wpX_pulse
  dsimp only
  refine hX _ ?_
  rcases c with ⟨hr, s, x, hs, rfl, hx, rfl, hk0⟩ | ⟨hr, hn⟩
  · have HA := I.1
    have HB := I.2.1
    have ex : ∃ n, n < 16 ∧ nI x = nI n := ⟨x, hx, rfl⟩
    have ey := I.2.2.1 s hs
    obtain ⟨T, hT, hlt, he, hY2⟩ := ec_times v3
    rw [ec_cl hs]
    refine br_t hr ⟨ec_in hs, nm_e ⟨T + 1, ec_xpu HA HB hs hk0 hT hlt he (fun bx' => ?_) T 0 bx (Nat.zero_add T)⟩⟩
    unfold wpY_pulse
    refine hY _ (br_t (by rw [hr]; decide) ?_)
    refine hY2 (fun z => wY_pulse_36 _ (nI s) (nI x) z K O A B C V bY on) ?_
    unfold wY_pulse_36
    rw [ec_cl hs]
    exact ⟨ec_in hs, nm_e ⟨T + 1, ec_ypu HA HB hs hT I.2.2.1 ex ey (fun bY' on' => ⟨rfl, ec_rel (ec_Inv_pv I ex ey T)⟩) T 0 bY on (Nat.zero_add T)⟩⟩
  · refine br_f hr ?_
    unfold wpY_pulse
    exact hY _ (br_f hn ⟨rfl, ec_rel I⟩)
theorem i_vc_value {k : Nat} {u : SX} {v : SY} (I : i_Rel k u v) (hk : k + 5 ≤ 2560) (v1 : Int32) : wpX_value (fun r => wpY_value (fun r' => r' = r ∧ i_Rel (k + 5) u v) v v1) u v1 := by
  obtain ⟨K, V, O, A, B, C, bx, bY, on, rfl, rfl, I⟩ := I
  unfold wpX_value wpY_value
  dsimp only
  refine ec_xsig v1 (fun b => br_t rfl ?_) fun s hs e1 => br_f (by decide) ?_
  · refine ec_ysig v1 (fun _ => br_t rfl ⟨rfl, ec_rel I⟩) fun s hs e => ?_
    rw [e] at b
    exact absurd b (ec_nbs hs)
  · subst e1
    refine ⟨ec_in hs, ec_ysig _ (fun b => absurd b (ec_nbs hs)) fun _ _ _ => br_f (by decide) ⟨ec_in hs, rfl, ec_rel I⟩⟩
theorem i_vc_kind {k : Nat} {u : SX} {v : SY} (I : i_Rel k u v) (hk : k + 5 ≤ 2560) (v1 : Int32) : wpX_kind (fun r => wpY_kind (fun r' => r' = r ∧ i_Rel (k + 5) u v) v v1) u v1 := by
  obtain ⟨K, V, O, A, B, C, bx, bY, on, rfl, rfl, I⟩ := I
  unfold wpX_kind wpY_kind
  dsimp only
  refine ec_xsig v1 (fun b => br_t rfl ?_) fun s hs e1 => br_f (by decide) ?_
  · refine ec_ysig v1 (fun _ => br_t rfl ⟨rfl, ec_rel I⟩) fun s hs e => ?_
    rw [e] at b
    exact absurd b (ec_nbs hs)
  · subst e1
    refine ⟨ec_in hs, ec_ysig _ (fun b => absurd b (ec_nbs hs)) fun _ _ _ => br_f (by decide) ⟨ec_in hs, rfl, ec_rel I⟩⟩
theorem i_vc_hanging {k : Nat} {u : SX} {v : SY} (I : i_Rel k u v) (hk : k + 5 ≤ 2560) (v1 : Int32) : wpX_hanging (fun r => wpY_hanging (fun r' v' => r' = r ∧ i_Rel (k + 5) u v') v v1) u v1 := by
  obtain ⟨K, V, O, A, B, C, bx, bY, on, rfl, rfl, I⟩ := I
  have J := I
  obtain ⟨HA, HB, H15, S, rk, R⟩ := J
  obtain ⟨rk', R', hr⟩ := ec_rk12 (ec_ixin HA) (ec_ixin HB) R
  unfold wpX_hanging
  dsimp only
  refine ec_xsig v1 (fun b => br_t rfl ?_) fun s hs e1 => br_f (by decide) ?_
  · unfold wpY_hanging
    refine ec_ysig v1 (fun _ => br_t rfl ⟨rfl, ec_rel I⟩) fun s hs e => ?_
    rw [e] at b
    exact absurd b (ec_nbs hs)
  · subst e1
    refine ec_xwo HA HB hs fun r hX => ?_
    unfold wpY_hanging
    refine ec_ysig _ (fun b => absurd b (ec_nbs hs)) fun _ _ _ => br_f (by decide) ?_
    refine ec_yfh HA HB fun on' Sn Cm => ⟨13, ec_yh18 hs (fun r' hY => ⟨?_, ec_rel I⟩) 12 0 0 rfl ?_⟩
    · intro i hi
      rw [b_0]
      constructor
      · intro c; exact absurd c (by decide)
      · intro c; omega
    · apply b_ext
      intro i hi
      rw [Bool.eq_iff_iff, hX i hi, hY i hi]
      constructor
      · rintro ⟨c1, c2⟩
        obtain ⟨n, hn⟩ := Sn i c1 s hs c2
        exact ⟨c1, ec_F_stab (ec_ixin HA) (ec_ixin HB) R' 12 n i c1 (hr i c1) hn⟩
      · rintro ⟨c1, c2⟩
        exact ⟨c1, Cm i c1 s hs (ec_F_s _ _ c2)⟩
theorem i_vc_depth {k : Nat} {u : SX} {v : SY} (I : i_Rel k u v) (hk : k + 5 ≤ 2560) : wpX_depth (fun r => wpY_depth (fun r' v' => r' = r ∧ i_Rel (k + 5) u v') v) u := by
  obtain ⟨K, V, O, A, B, C, bx, bY, on, rfl, rfl, I⟩ := I
  have J := I
  obtain ⟨HA, HB, H15, S, rk, R⟩ := J
  have D := ec_dep (ec_ixin HA) (ec_ixin HB) R
  exact ec_xdepth HA HB D (ec_ydepth HA HB R D fun on' => ⟨rfl, ec_rel I⟩)
