section
variable {fp : Int32} {a mo P S Q m : Nat → Int32}
theorem rb_ht_sym {t x y s : Int32} : rb_ht t y x s = rb_ht t x y s := by
  unfold rb_ht
  by_cases c : t = 3 ∧ (¬ x - y < -1 ∧ ¬ 1 < x - y) ∧ ¬ s ≤ 0
  · rw [if_pos c, if_pos ⟨c.1, rb_near.mpr c.2.1, c.2.2⟩]
  · rw [if_neg c, if_neg (fun z => c ⟨z.1, rb_near.mp z.2.1, z.2.2⟩)]
theorem rb_xp {post : SX → Prop} {k : Nat} (hM : rb_Mv a mo m) (hk : k < 40) (hg : rb_Ok (rb_at P S Q (2 * k))) (h : ∀ P' S' Q', rb_at P' S' Q' (2 * k + 2) = rb_nx (rb_ud m (40 * 0) k) (rb_ud m (40 * 1) k) (rb_at P S Q (2 * k)) → (∀ j, j ≠ 2 * k + 2 → j ≠ 2 * k + 3 → P' j = P j) → (∀ j, j ≠ 2 * k + 2 → j ≠ 2 * k + 3 → S' j = S j) → (∀ j, j ≠ 2 * k + 2 → j ≠ 2 * k + 3 → Q' j = Q j) → post (fp, a, mo, P', S', Q')) : wpX_playFrame post (fp, a, mo, P, S, Q) (nI k) := by
  unfold wpX_playFrame
  dsimp only
  refine nm_r (nI_1 k) ?_
  refine rb_xc (p := 0) (n := k + 1) (2 * k) (by omega) (by omega) (by decide) (fun P1 S1 Q1 p1 s1 q1 op1 os1 oq1 => ?_)
  dsimp only
  refine rb_xc (p := 1) (n := k + 1) (2 * k + 1) (by omega) (by omega) (by decide) (fun P2 S2 Q2 p2 s2 q2 op2 os2 oq2 => ?_)
  dsimp only
  have P0 : P2 (2 * k + 2) = P (2 * k) := (op2 _ (by omega)).trans p1
  have S0 : S2 (2 * k + 2) = S (2 * k) := (os2 _ (by omega)).trans s1
  have Q0 : Q2 (2 * k + 2) = Q (2 * k) := (oq2 _ (by omega)).trans q1
  have PP : P2 (2 * k + 3) = P (2 * k + 1) := p2.trans (op1 _ (by omega))
  have SS : S2 (2 * k + 3) = S (2 * k + 1) := s2.trans (os1 _ (by omega))
  have QQ : Q2 (2 * k + 3) = Q (2 * k + 1) := q2.trans (oq1 _ (by omega))
  have oP : ∀ j, j ≠ 2 * k + 2 → j ≠ 2 * k + 3 → P2 j = P j := fun j a b => (op2 j b).trans (op1 j a)
  have oS : ∀ j, j ≠ 2 * k + 2 → j ≠ 2 * k + 3 → S2 j = S j := fun j a b => (os2 j b).trans (os1 j a)
  have oQ : ∀ j, j ≠ 2 * k + 2 → j ≠ 2 * k + 3 → Q2 j = Q j := fun j a b => (oq2 j b).trans (oq1 j a)
  have at2 : rb_at P2 S2 Q2 (2 * k) = rb_at P S Q (2 * k) := by
    unfold rb_at
    rw [oP (2 * k) (by omega) (by omega), oP (2 * k + 1) (by omega) (by omega), oS (2 * k) (by omega) (by omega), oS (2 * k + 1) (by omega) (by omega), oQ (2 * k) (by omega) (by omega), oQ (2 * k + 1) (by omega) (by omega)]
  have hg0 : 0 ≤ Q (2 * k) := hg.2.1
  have hg1 : 0 ≤ Q (2 * k + 1) := hg.2.2
  refine rb_xo (n := k) (by omega) (fun ho => br_f rb_10 (h P2 S2 Q2 ?_ oP oS oQ)) (fun ho => br_t rfl ?_)
  · rw [at2] at ho
    have e : rb_nx (rb_ud m (40 * 0) k) (rb_ud m (40 * 1) k) (rb_at P S Q (2 * k)) = rb_at P S Q (2 * k) := if_pos ho
    rw [e]
    show (P2 (2 * k + 2), P2 (2 * k + 3), S2 (2 * k + 2), S2 (2 * k + 3), Q2 (2 * k + 2), Q2 (2 * k + 3)) = _
    rw [P0, S0, Q0, PP, SS, QQ]
    rfl
  · rw [at2] at ho
    have e : rb_nx (rb_ud m (40 * 0) k) (rb_ud m (40 * 1) k) (rb_at P S Q (2 * k)) = rb_st (rb_ud m (40 * 0) k) (rb_ud m (40 * 1) k) (rb_at P S Q (2 * k)) := if_neg ho
    have r0 : Q2 (2 * k + 0) = Q (2 * k) := oQ (2 * k) (by omega) (by omega)
    have r1 : Q2 (2 * k + 1) = Q (2 * k + 1) := oQ (2 * k + 1) (by omega) (by omega)
    refine rb_xt (p := 0) (k := k) (m := m) (by decide) hk hM (by rw [r0]; exact hg0) ?_
    refine rb_xt (p := 1) (k := k) (m := m) (by decide) hk hM (by rw [r1]; exact hg1) ?_
    rw [r0, r1]
    refine rb_xe (p := 0) (n := k + 1) (2 * k + 2) (by omega) (by omega) (by decide) (by rw [Q0]; exact hg0) (fun Q3 e3 o3 => ?_)
    dsimp only
    have Q31 : Q3 (2 * k + 3) = Q (2 * k + 1) := (o3 _ (by omega)).trans QQ
    refine rb_xe (p := 1) (n := k + 1) (2 * k + 3) (by omega) (by omega) (by decide) (by rw [Q31]; exact hg1) (fun Q4 e4 o4 => ?_)
    dsimp only
    refine rb_xw (p := 0) (n := k + 1) (2 * k + 2) (2 * k + 3) (by omega) (by omega) (by omega) (by decide) (fun P3 w3 ow3 => ?_)
    dsimp only
    refine rb_xw (p := 1) (n := k + 1) (2 * k + 3) (2 * k + 2) (by omega) (by omega) (by omega) (by decide) (fun P4 w4 ow4 => ?_)
    dsimp only
    refine rb_xs (p := 0) (n := k + 1) (2 * k + 2) (2 * k + 3) (by omega) (by omega) (by omega) (by decide) (fun S3 Q5 s3 q5 os3 oq5 => ?_)
    dsimp only
    refine rb_xs (p := 1) (n := k + 1) (2 * k + 3) (2 * k + 2) (by omega) (by omega) (by omega) (by decide) (fun S4 Q6 s4 q6 os4 oq6 => ?_)
    dsimp only
    refine h P4 S4 Q6 ?_ (fun j a b => (ow4 j b).trans ((ow3 j a).trans (oP j a b))) (fun j a b => (os4 j a).trans ((os3 j b).trans (oS j a b))) (fun j a b => (oq6 j b).trans ((oq5 j a).trans ((o4 j b).trans ((o3 j a).trans (oQ j a b)))))
    rw [e]
    rw [P0, PP] at w3
    rw [ow3 (2 * k + 3) (by omega), PP, w3] at w4
    have w30 : P4 (2 * k + 2) = _ := (ow4 (2 * k + 2) (by omega)).trans w3
    have s30 : S3 (2 * k + 2) = S (2 * k) := (os3 _ (by omega)).trans S0
    have s40 : S4 (2 * k + 3) = S3 (2 * k + 3) := os4 _ (by omega)
    rw [SS] at s3
    rw [s3] at s40
    rw [s30, rb_ht_sym] at s4
    have q40 : Q4 (2 * k + 2) = rb_es (Q (2 * k)) := (o4 _ (by omega)).trans (e3.trans (congrArg rb_es Q0))
    have q41 : Q4 (2 * k + 3) = rb_es (Q (2 * k + 1)) := e4.trans (congrArg rb_es Q31)
    have q50 : Q6 (2 * k + 2) = Q5 (2 * k + 2) := oq6 _ (by omega)
    rw [q5, q40] at q50
    rw [oq5 (2 * k + 3) (by omega), q41] at q6
    show (P4 (2 * k + 2), P4 (2 * k + 3), S4 (2 * k + 2), S4 (2 * k + 3), Q6 (2 * k + 2), Q6 (2 * k + 3)) = _
    rw [s4, s40, q50, q6, w30, w4]
    rfl
/-! the frames anew -/
theorem rb_xr4 {post : Int32 → SX → Prop} {d : Nat} (hd : d ≤ 40) (hM : rb_Mv a mo m) (e : Nat → Int32) (fin : ∀ P' S' Q', (∀ i, i ≤ 40 → rb_pl m i = rb_at P' S' Q' (2 * i)) → post (nI (rb_cn e (fun i => rb_cd (rb_pl m i)) d)) (nI d, a, mo, P', S', Q')) : ∀ r k (P S Q : Nat → Int32), k + r = 40 → (∀ i, i ≤ k → rb_pl m i = rb_at P S Q (2 * i)) → (∀ i, k < i → i ≤ 40 → rb_cd (rb_at P S Q (2 * i)) = e i) → wX_replayFrom_4 post (r + 1) (nI (rb_cx e (fun i => rb_cd (rb_pl m i)) d k)) (nI k) (nI d) a mo P S Q := by
  intro r
  induction r with
  | zero =>
    intro k P S Q hk h1 h2
    obtain rfl : k = 40 := by omega
    rw [rb_cx_end hd]
    exact br_t (by decide) (fin P S Q h1)
  | succ r ih =>
    intro k P S Q hk h1 h2
    rw [wX_replayFrom_4]
    dsimp only
    rw [nI_1 k]
    refine br_f (nI_ge (b := 40) (by omega) (by omega)) (rb_xfd (n := k + 1) (by omega) (rb_xp (m := m) hM (by omega) ?_ (fun P' S' Q' e1 oP oS oQ => rb_xfd (n := k + 1) (by omega) ?_)))
    · rw [← h1 k (by omega)]
      exact rb_Ok_pl m k
    · have e2 : rb_pl m (k + 1) = rb_at P' S' Q' (2 * (k + 1)) := by
        rw [rb_pl_s, h1 k (by omega)]
        exact e1.symm
      have keep : ∀ i, i ≠ k + 1 → rb_at P' S' Q' (2 * i) = rb_at P S Q (2 * i) := by
        intro i hi
        unfold rb_at
        rw [oP (2 * i) (by omega) (by omega), oP (2 * i + 1) (by omega) (by omega), oS (2 * i) (by omega) (by omega), oS (2 * i + 1) (by omega) (by omega), oQ (2 * i) (by omega) (by omega), oQ (2 * i + 1) (by omega) (by omega)]
      have ih' := ih (k + 1) P' S' Q' (by omega) (fun i hi => by
        by_cases z : i = k + 1
        · rw [z]; exact e2
        · rw [keep i z]; exact h1 i (by omega)) (fun i hi hi2 => by
        rw [keep i (by omega)]; exact h2 i (by omega) hi2)
      have hb := h2 (k + 1) (by omega) (by omega)
      rw [← e2, hb]
      refine pk_le d k (fun z => nm_e ?_) (fun z => br_c (fun w => nm_e ?_) (fun w => nm_r (nI_1 _) (nm_e ?_)))
      · rw [rb_cx_d z] at ih'; exact ih'
      · rw [rb_cx_e w] at ih'; exact ih'
      · rw [rb_cx_t z w] at ih'; exact ih'
theorem rb_xr {post : Int32 → SX → Prop} {d k : Nat} (hd : d ≤ 40) (hk : k ≤ 40) (hM : rb_Mv a mo m) (e : Nat → Int32) (h1 : ∀ i, i ≤ k → rb_pl m i = rb_at P S Q (2 * i)) (h2 : ∀ i, k < i → i ≤ 40 → rb_cd (rb_at P S Q (2 * i)) = e i) (h0 : rb_cx e (fun i => rb_cd (rb_pl m i)) d k = 0) (fin : ∀ P' S' Q', (∀ i, i ≤ 40 → rb_pl m i = rb_at P' S' Q' (2 * i)) → post (nI (rb_cn e (fun i => rb_cd (rb_pl m i)) d)) (nI d, a, mo, P', S', Q')) : wpX_replayFrom post (nI d, a, mo, P, S, Q) (nI k) := by
  have := rb_xr4 hd hM e fin (40 - k) k P S Q (by omega) h1 h2
  rw [h0, nI_0] at this
  exact ⟨_, this⟩
/-! the first gap, the fight's end -/
theorem rb_xg2 {post : Int32 → Prop} {p : Nat} (hp : p < 2) (hM : rb_Mv a mo m) : ∀ r k, k + r = 40 → post (nI (rb_gp m (40 * p) r k)) → wX_firstGap_2 post (nI p) fp a mo P S Q (r + 1) (nI k) := by
  intro r
  induction r with
  | zero =>
    intro k hk h
    obtain rfl : k = 40 := by omega
    exact br_t (by decide) h
  | succ r ih =>
    intro k hk h
    rw [wX_firstGap_2]
    dsimp only
    rw [rb_i, nI_clamp (n := 2 * k + p) (by omega)]
    rw [rb_gp_s] at h
    refine br_f (nI_ge (b := 40) (by omega) (by omega)) ⟨vp_in_nI (by omega) (by omega), ?_⟩
    rcases hM p k hp (by omega) with ⟨ha, hm⟩ | ⟨ha, hm, hmo⟩
    · rw [if_pos (by rw [hm]; exact Int32.le_refl 0)] at h
      exact br_t ha h
    · rw [if_neg hm] at h
      exact br_f ha (nm_r (nI_1 k) (ih (k + 1) (by omega) h))
theorem rb_xg {post : Int32 → Prop} {p : Nat} (hp : p < 2) (hM : rb_Mv a mo m) (h : post (nI (rb_gp m (40 * p) 40 0))) : wpX_firstGap post (fp, a, mo, P, S, Q) (nI p) := ⟨41, rb_xg2 hp hM 40 0 rfl h⟩
theorem rb_xsr {post : Int32 → Prop} (hM : rb_Mv a mo m) (h : post (nI (rb_sr m 40 0))) : wpX_sure post (fp, a, mo, P, S, Q) := by
  have g0 := rb_gp_le m (40 * 0) 40 0
  have g1 := rb_gp_le m (40 * 1) 40 0
  rw [rb_sr_eq] at h
  unfold wpX_sure
  dsimp only
  refine rb_xg (p := 0) (by decide) hM (rb_xg (p := 1) (by decide) hM ?_)
  refine pk_le (rb_gp m (40 * 1) 40 0) (rb_gp m (40 * 0) 40 0) (fun z => ?_) (fun z => ?_)
  · rw [if_neg (by omega)] at h; exact h
  · rw [if_pos z] at h; exact h
theorem rb_xoa {post : Int32 → Prop} (hF : ∀ n, n ≤ 40 → rb_pl m n = rb_at P S Q (2 * n)) : ∀ r k, k + r = 41 → post (rb_oa m r k) → wX_overAfter_2 post fp a mo P S Q (r + 1) (nI k) := by
  intro r
  induction r with
  | zero =>
    intro k hk h
    obtain rfl : k = 41 := by omega
    exact br_t (by decide) h
  | succ r ih =>
    intro k hk h
    rw [rb_oa_s] at h
    refine br_f (nI_nlt (b := k) (a := 40) (by omega) (by omega)) (rb_xo (by omega) (fun ho => br_f rb_10 ?_) (fun ho => br_t rfl (nm_r (nI_1 k) (ih (k + 1) (by omega) ?_))))
    · rw [← hF k (by omega)] at ho
      rw [if_pos ho] at h
      exact h
    · rw [← hF k (by omega)] at ho
      rw [if_neg ho] at h
      exact h
end
