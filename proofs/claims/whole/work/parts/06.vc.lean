section
/-- both played d frames; the moves are the same; X's arrays hold what is shown after each number of frames; what Y's places, points, pauses and pictures hold doesn't matter -/
def i_Rel (k : Nat) (u : SX) (v : SY) : Prop := ∃ (d : Nat) (a mo P S Q m A B C bf : Nat → Int32), u = (nI d, a, mo, P, S, Q) ∧ v = (nI d, m, A, B, C, bf) ∧ d ≤ 40 ∧ rb_Mv a mo m ∧ ∀ n, n ≤ 40 → rb_pl m n = rb_at P S Q (2 * n)
theorem rb_R {k d : Nat} {a mo P S Q m A B C bf : Nat → Int32} (hd : d ≤ 40) (hM : rb_Mv a mo m) (hF : ∀ n, n ≤ 40 → rb_pl m n = rb_at P S Q (2 * n)) : i_Rel k (nI d, a, mo, P, S, Q) (nI d, m, A, B, C, bf) :=
  ⟨d, a, mo, P, S, Q, m, A, B, C, bf, rfl, rfl, hd, hM, hF⟩
theorem i_up {k : Nat} {u : SX} {v : SY} (h : i_Rel k u v) : i_Rel (k + 4) u v := h
theorem i_vc0 : wpX_init (fun u => wpY_init (fun v => i_Rel 0 u v)) := by
  unfold wpX_init
  refine nm_e (nm_e (nm_e (nm_e ?_)))
  refine rb_xr (d := 0) (k := 0) (m := fun _ => 0) (by omega) (by omega) rb_Mv_0 _ ?_ (fun i _ _ => rfl) rfl (fun P' S' Q' hF => ?_)
  · intro i hi
    obtain rfl : i = 0 := by omega
    rfl
  · exact rb_R (k := 0) (d := 0) (by omega) rb_Mv_0 hF
theorem rb_pl01 {p : Nat} (hp : p < 2) : nI p = 0 ∨ nI p = 1 := by
  rcases (by omega : p = 0 ∨ p = 1) with rfl | rfl
  · exact Or.inl rfl
  · exact Or.inr rfl
theorem rb_plx {x : Int32} (h : x = 0 ∨ x = 1) : ∃ p, p < 2 ∧ x = nI p := by
  rcases h with rfl | rfl
  · exact ⟨0, by decide, rfl⟩
  · exact ⟨1, by decide, rfl⟩
theorem rb_lt {x : Int32} {a b : Int32} (hab : a < b) (h : b ≤ x) : a < x := Int32.lt_of_lt_of_le hab h
theorem rb_frx (x : Int32) : ((x < 0 ∨ 40 ≤ x) ∧ (x < 0 ∨ 39 < x)) ∨ ∃ f, f < 40 ∧ x = nI f := by
  rcases pk_ix x (n := 40) (by decide) with h | h | h
  · exact Or.inl ⟨Or.inl h, Or.inl h⟩
  · exact Or.inl ⟨Or.inr h, Or.inr (rb_lt (b := 40) (by decide) h)⟩
  · exact Or.inr h
theorem rb_mvx (x : Int32) : (x < 0 ∨ 3 < x) ∨ ∃ f, f < 4 ∧ x = nI f := by
  rcases pk_ix x (n := 4) (by decide) with h | h | h
  · exact Or.inl (Or.inl h)
  · exact Or.inl (Or.inr (rb_lt (b := 4) (by decide) h))
  · exact Or.inr h
theorem rb_nx' (x : Int32) : (x < 0 ∨ 40 < x) ∨ ∃ f, f ≤ 40 ∧ x = nI f := by
  rcases pk_ix x (n := 41) (by decide) with h | h | ⟨j, hj, h⟩
  · exact Or.inl (Or.inl h)
  · exact Or.inl (Or.inr (rb_lt (b := 41) (by decide) h))
  · exact Or.inr ⟨j, by omega, h⟩
theorem rb_fr40 {f : Nat} (h : f < 40) : ¬ (nI f < 0 ∨ 40 ≤ nI f) := fun w => w.elim (nI_pos (by omega)) (nI_ge (b := 40) (by omega) (by omega))
theorem rb_fr39 {f : Nat} (h : f < 40) : ¬ (nI f < 0 ∨ 39 < nI f) := fun w => w.elim (nI_pos (by omega)) (nI_nlt (a := 39) (by omega) (by omega))
theorem rb_mv3 {f : Nat} (h : f < 4) : ¬ (nI f < 0 ∨ 3 < nI f) := fun w => w.elim (nI_pos (by omega)) (nI_nlt (a := 3) (by omega) (by omega))
theorem rb_fc40 {f : Nat} (h : f ≤ 40) : ¬ (nI f < 0 ∨ 40 < nI f) := fun w => w.elim (nI_pos (by omega)) (nI_nlt (a := 40) (by omega) (by omega))
theorem rb_vb1 : vp_nar .boolean 1 = 1 := by decide
theorem rb_at_p {A B C P S Q : Nat → Int32} {i p : Nat} (h : rb_at A B C 0 = rb_at P S Q i) (hp : p < 2) : A p = P (i + p) ∧ B p = S (i + p) ∧ C p = Q (i + p) := by
  have h0 : A 0 = P i := congrArg (fun g : rb_F => g.1) h
  have h1 : A 1 = P (i + 1) := congrArg (fun g : rb_F => g.2.1) h
  have h2 : B 0 = S i := congrArg (fun g : rb_F => g.2.2.1) h
  have h3 : B 1 = S (i + 1) := congrArg (fun g : rb_F => g.2.2.2.1) h
  have h4 : C 0 = Q i := congrArg (fun g : rb_F => g.2.2.2.2.1) h
  have h5 : C 1 = Q (i + 1) := congrArg (fun g : rb_F => g.2.2.2.2.2) h
  rcases (by omega : p = 0 ∨ p = 1) with rfl | rfl
  · exact ⟨h0, h2, h4⟩
  · exact ⟨h1, h3, h5⟩
theorem i_vc_arrive {k : Nat} {u : SX} {v : SY} (I : i_Rel k u v) (hk : k + 4 ≤ 2048) (v1 : Int32) (v2 : Int32) (v3 : Int32) : wpX_arrive (fun r u' => wpY_arrive (fun r' v' => r' = r ∧ i_Rel (k + 4) u' v') v v1 v2 v3) u v1 v2 v3 := by
  obtain ⟨d, a, mo, P, S, Q, m, A, B, C, bf, rfl, rfl, hd, hM, hF⟩ := I
  have R : i_Rel (k + 4) (nI d, a, mo, P, S, Q) (nI d, m, A, B, C, bf) := rb_R hd hM hF
  unfold wpX_arrive
  dsimp only
  by_cases hp : v1 = 0 ∨ v1 = 1
  · obtain ⟨p, hp2, rfl⟩ := rb_plx hp
    rcases rb_frx v2 with ⟨f1, f2⟩ | ⟨f, hf, rfl⟩
    · refine rb_xply (fun _ => br_f rb_10 (rb_xfrm (fun z => absurd f1 (fun w => w.elim z.1 z.2)) (fun _ => br_t rfl ?_))) (fun z => absurd hp z)
      unfold wpY_arrive
      dsimp only
      exact rb_yply (fun _ => br_f rb_10 (rb_yfrm (fun z => absurd f2 (fun w => w.elim z.1 z.2)) (fun _ => br_t rfl ⟨rfl, R⟩))) (fun z => absurd hp z)
    · rcases rb_mvx v3 with f3 | ⟨c, hc, rfl⟩
      · refine rb_xply (fun _ => br_f rb_10 (rb_xfrm (fun _ => br_f rb_10 (rb_xmov (fun z => absurd f3 (fun w => w.elim z.1 z.2)) (fun _ => br_t rfl ?_))) (fun z => absurd z (rb_fr40 hf)))) (fun z => absurd hp z)
        unfold wpY_arrive
        dsimp only
        refine rb_yply (fun _ => br_f rb_10 (rb_yfrm (fun _ => br_f rb_10 (br_c (fun _ => ⟨rfl, R⟩) (fun h1 => br_t ?_ ⟨rfl, R⟩))) (fun z => absurd z (rb_fr39 hf)))) (fun z => absurd hp z)
        exact f3.elim (fun w => absurd w h1) id
      · refine rb_xply (fun _ => br_f rb_10 (rb_xfrm (fun _ => br_f rb_10 (rb_xmov (fun _ => br_f rb_10 (nm_r (rb_i f p) ?_)) (fun z => absurd z (rb_mv3 hc)))) (fun z => absurd z (rb_fr40 hf)))) (fun z => absurd hp z)
        rw [nI_clamp (n := 2 * f + p) (by omega), rb_vb1]
        have i0 : vp_in (nI (2 * f + p)) 80 := vp_in_nI (by omega) (by omega)
        rcases hM p f hp2 hf with ⟨ha, hm⟩ | ⟨ha, hm, hmo⟩
        · refine ⟨i0, br_t ha ⟨i0, nm_e ⟨i0, nm_e ?_⟩⟩⟩
          refine rb_xr (m := upd m (40 * p + f) (nI c + 1)) hd (by omega) (rb_Mv_put hM hp2 hf hc) (fun i => rb_cd (rb_pl m i)) ?_ ?_ ?_ (fun P' S' Q' hF' => ?_)
          · intro i hi
            rw [rb_pl_put hp2 hf hi]
            exact hF i (by omega)
          · intro i _ hi
            exact congrArg rb_cd (hF i hi).symm
          · exact rb_cx_0 (fun i hi => congrArg rb_cd (rb_pl_put hp2 hf hi))
          · exact rb_ya hd hp2 hf hc (by rw [hm]; exact Int32.le_refl 0) (fun A' B' C' bf' => ⟨rfl, rb_R hd (rb_Mv_put hM hp2 hf hc) hF'⟩)
        · refine ⟨i0, br_f ha ?_⟩
          unfold wpY_arrive
          dsimp only
          rw [rb_j, nI_clamp (n := 40 * p + f) (by omega)]
          exact rb_yply (fun _ => br_f rb_10 (rb_yfrm (fun _ => br_f rb_10 (br_f (fun w => rb_mv3 hc (Or.inl w)) (br_f (fun w => rb_mv3 hc (Or.inr w)) ⟨vp_in_nI (by omega) (by omega), br_f hm ⟨rfl, R⟩⟩))) (fun z => absurd z (rb_fr39 hf)))) (fun z => absurd hp z)
  · refine rb_xply (fun z => absurd z hp) (fun _ => br_t rfl ?_)
    unfold wpY_arrive
    dsimp only
    exact rb_yply (fun z => absurd z hp) (fun _ => br_t rfl ⟨rfl, R⟩)
theorem i_vc_tick {k : Nat} {u : SX} {v : SY} (I : i_Rel k u v) (hk : k + 4 ≤ 2048) : wpX_tick (fun r u' => wpY_tick (fun r' v' => r' = r ∧ i_Rel (k + 4) u' v') v) u := by
  obtain ⟨d, a, mo, P, S, Q, m, A, B, C, bf, rfl, rfl, hd, hM, hF⟩ := I
  refine pk_lt d 40 (fun h => nm_r (nI_1 d) (br_t (nI_lt (b := 40) h (by omega)) (nm_r (nI_1 d) ⟨rfl, rb_R (by omega) hM hF⟩))) (fun h => br_f (nI_nlt (b := 40) h (by omega)) ⟨rfl, rb_R hd hM hF⟩)
theorem i_vc_played {k : Nat} {u : SX} {v : SY} (I : i_Rel k u v) (hk : k + 4 ≤ 2048) : wpX_played (fun r => wpY_played (fun r' => r' = r ∧ i_Rel (k + 4) u v) v) u := by
  obtain ⟨d, a, mo, P, S, Q, m, A, B, C, bf, rfl, rfl, hd, hM, hF⟩ := I
  exact ⟨rfl, rb_R hd hM hF⟩
theorem i_vc_sure {k : Nat} {u : SX} {v : SY} (I : i_Rel k u v) (hk : k + 4 ≤ 2048) : wpX_sure (fun r => wpY_sure (fun r' => r' = r ∧ i_Rel (k + 4) u v) v) u := by
  obtain ⟨d, a, mo, P, S, Q, m, A, B, C, bf, rfl, rfl, hd, hM, hF⟩ := I
  exact rb_xsr hM (rb_ysr ⟨rfl, rb_R hd hM hF⟩)
theorem i_vc_position {k : Nat} {u : SX} {v : SY} (I : i_Rel k u v) (hk : k + 4 ≤ 2048) (v1 : Int32) : wpX_position (fun r => wpY_position (fun r' v' => r' = r ∧ i_Rel (k + 4) u v') v v1) u v1 := by
  obtain ⟨d, a, mo, P, S, Q, m, A, B, C, bf, rfl, rfl, hd, hM, hF⟩ := I
  unfold wpX_position wpY_position
  dsimp only
  by_cases hp : v1 = 0 ∨ v1 = 1
  · obtain ⟨p, hp2, rfl⟩ := rb_plx hp
    rw [rb_i, nI_clamp (n := 2 * d + p) (by omega), nI_clamp (n := p) (by omega)]
    refine rb_xply (fun _ => br_f rb_10 ⟨vp_in_nI (by omega) (by omega), rb_yp hd (fun A' B' C' e => rb_yply (fun _ => br_f rb_10 ⟨vp_in_nI hp2 (by omega), ?_, rb_R hd hM hF⟩) (fun z => absurd hp z))⟩) (fun z => absurd hp z)
    exact (rb_at_p (e.trans (hF d hd)) hp2).1
  · exact rb_xply (fun z => absurd z hp) (fun _ => br_t rfl (rb_yp hd (fun A' B' C' e => rb_yply (fun z => absurd z hp) (fun _ => br_t rfl ⟨rfl, rb_R hd hM hF⟩))))
theorem i_vc_strength {k : Nat} {u : SX} {v : SY} (I : i_Rel k u v) (hk : k + 4 ≤ 2048) (v1 : Int32) : wpX_strength (fun r => wpY_strength (fun r' v' => r' = r ∧ i_Rel (k + 4) u v') v v1) u v1 := by
  obtain ⟨d, a, mo, P, S, Q, m, A, B, C, bf, rfl, rfl, hd, hM, hF⟩ := I
  unfold wpX_strength wpY_strength
  dsimp only
  by_cases hp : v1 = 0 ∨ v1 = 1
  · obtain ⟨p, hp2, rfl⟩ := rb_plx hp
    rw [rb_i, nI_clamp (n := 2 * d + p) (by omega), nI_clamp (n := p) (by omega)]
    refine rb_xply (fun _ => br_f rb_10 ⟨vp_in_nI (by omega) (by omega), rb_yp hd (fun A' B' C' e => rb_yply (fun _ => br_f rb_10 ⟨vp_in_nI hp2 (by omega), ?_, rb_R hd hM hF⟩) (fun z => absurd hp z))⟩) (fun z => absurd hp z)
    exact (rb_at_p (e.trans (hF d hd)) hp2).2.1
  · exact rb_xply (fun z => absurd z hp) (fun _ => br_t rfl (rb_yp hd (fun A' B' C' e => rb_yply (fun z => absurd z hp) (fun _ => br_t rfl ⟨rfl, rb_R hd hM hF⟩))))
theorem i_vc_pause {k : Nat} {u : SX} {v : SY} (I : i_Rel k u v) (hk : k + 4 ≤ 2048) (v1 : Int32) : wpX_pause (fun r => wpY_pause (fun r' v' => r' = r ∧ i_Rel (k + 4) u v') v v1) u v1 := by
  obtain ⟨d, a, mo, P, S, Q, m, A, B, C, bf, rfl, rfl, hd, hM, hF⟩ := I
  unfold wpX_pause wpY_pause
  dsimp only
  by_cases hp : v1 = 0 ∨ v1 = 1
  · obtain ⟨p, hp2, rfl⟩ := rb_plx hp
    rw [rb_i, nI_clamp (n := 2 * d + p) (by omega), nI_clamp (n := p) (by omega)]
    refine rb_xply (fun _ => br_f rb_10 ⟨vp_in_nI (by omega) (by omega), rb_yp hd (fun A' B' C' e => rb_yply (fun _ => br_f rb_10 ⟨vp_in_nI hp2 (by omega), ?_, rb_R hd hM hF⟩) (fun z => absurd hp z))⟩) (fun z => absurd hp z)
    exact (rb_at_p (e.trans (hF d hd)) hp2).2.2
  · exact rb_xply (fun z => absurd z hp) (fun _ => br_t rfl (rb_yp hd (fun A' B' C' e => rb_yply (fun z => absurd z hp) (fun _ => br_t rfl ⟨rfl, rb_R hd hM hF⟩))))
theorem i_vc_shown {k : Nat} {u : SX} {v : SY} (I : i_Rel k u v) (hk : k + 4 ≤ 2048) (v1 : Int32) : wpX_shown (fun r => wpY_shown (fun r' v' => r' = r ∧ i_Rel (k + 4) u v') v v1) u v1 := by
  obtain ⟨d, a, mo, P, S, Q, m, A, B, C, bf, rfl, rfl, hd, hM, hF⟩ := I
  unfold wpX_shown wpY_shown
  dsimp only
  rcases rb_nx' v1 with hn | ⟨n, hn, rfl⟩
  · refine rb_xfc (fun z => absurd hn (fun w => w.elim z.1 z.2)) (fun _ => br_t rfl (br_c (fun _ => ⟨rfl, rb_R hd hM hF⟩) (fun h1 => br_f (fun h2 => ?_) ⟨rfl, rb_R hd hM hF⟩)))
    exact hn.elim h1 (fun w => absurd h2 (Int32.not_le.mpr w))
  · refine rb_xfc (fun _ => br_f rb_10 (rb_xfd hn (br_f (nI_pos (by omega)) (br_t (nI_le (b := 40) hn (by omega)) (rb_ypc hn (fun A' B' C' e => ⟨?_, rb_R hd hM hF⟩)))))) (fun z => absurd z (rb_fc40 hn))
    rw [hF n hn]
theorem i_vc_move {k : Nat} {u : SX} {v : SY} (I : i_Rel k u v) (hk : k + 4 ≤ 2048) (v1 : Int32) (v2 : Int32) : wpX_move (fun r => wpY_move (fun r' => r' = r ∧ i_Rel (k + 4) u v) v v1 v2) u v1 v2 := by
  obtain ⟨d, a, mo, P, S, Q, m, A, B, C, bf, rfl, rfl, hd, hM, hF⟩ := I
  unfold wpX_move wpY_move
  dsimp only
  by_cases hp : v1 = 0 ∨ v1 = 1
  · obtain ⟨p, hp2, rfl⟩ := rb_plx hp
    rcases rb_frx v2 with ⟨f1, f2⟩ | ⟨f, hf, rfl⟩
    · exact rb_xply (fun _ => br_f rb_10 (rb_xfrm (fun z => absurd f1 (fun w => w.elim z.1 z.2)) (fun _ => br_t rfl (rb_yply (fun _ => br_f rb_10 (rb_yfrm (fun z => absurd f2 (fun w => w.elim z.1 z.2)) (fun _ => br_t rfl ⟨rfl, rb_R hd hM hF⟩))) (fun z => absurd hp z))))) (fun z => absurd hp z)
    · exact rb_xply (fun _ => br_f rb_10 (rb_xfrm (fun _ => br_f rb_10 (rb_xu hp2 hf hM (rb_yply (fun _ => br_f rb_10 (rb_yfrm (fun _ => br_f rb_10 (rb_yu hp2 hf ⟨rfl, rb_R hd hM hF⟩)) (fun z => absurd z (rb_fr39 hf)))) (fun z => absurd hp z)))) (fun z => absurd z (rb_fr40 hf)))) (fun z => absurd hp z)
  · exact rb_xply (fun z => absurd z hp) (fun _ => br_t rfl (rb_yply (fun z => absurd z hp) (fun _ => br_t rfl ⟨rfl, rb_R hd hM hF⟩)))
theorem rb_Mv_z {a mo m : Nat → Int32} {p : Nat} (hM : rb_Mv a mo m) (hp : p < 2) : ∀ k, k < 40 → m (40 * p + k) = 0 ∨ ¬ m (40 * p + k) ≤ 0 := by
  intro k hk
  rcases hM p k hp hk with ⟨_, hm⟩ | ⟨_, hm, _⟩
  · exact Or.inl hm
  · exact Or.inr hm
theorem i_vc_missing {k : Nat} {u : SX} {v : SY} (I : i_Rel k u v) (hk : k + 4 ≤ 2048) (v1 : Int32) : wpX_missing (fun r => wpY_missing (fun r' => r' = r ∧ i_Rel (k + 4) u v) v v1) u v1 := by
  obtain ⟨d, a, mo, P, S, Q, m, A, B, C, bf, rfl, rfl, hd, hM, hF⟩ := I
  unfold wpX_missing wpY_missing
  dsimp only
  by_cases hp : v1 = 0 ∨ v1 = 1
  · obtain ⟨p, hp2, rfl⟩ := rb_plx hp
    have g := rb_gp_le m (40 * p) 40 0
    refine rb_xply (fun _ => br_f rb_10 (rb_xg hp2 hM (pk_le 40 (rb_gp m (40 * p) 40 0) (fun h => ?_) (fun h => ?_)))) (fun z => absurd hp z)
    · exact ⟨41, rb_yms hp2 (rb_Mv_z hM hp2) 40 0 rfl (fun z => absurd z (by omega)) (fun _ => ⟨rfl, rb_R hd hM hF⟩)⟩
    · exact ⟨41, rb_yms hp2 (rb_Mv_z hM hp2) 40 0 rfl (fun _ => ⟨rfl, rb_R hd hM hF⟩) (fun z => absurd h z)⟩
  · exact rb_xply (fun z => absurd z hp) (fun _ => br_t rfl ⟨0 + 1, br_f (by decide) (rb_yply (fun z => absurd z hp) (fun _ => br_t rfl (rb_yply (fun z => absurd z hp) (fun _ => br_t rfl ⟨rfl, rb_R hd hM hF⟩))))⟩)
theorem rb_z0 {x : Int32} (h : x = 0) : x ≤ 0 := by rw [h]; exact Int32.le_refl 0
theorem rb_z1 {x y : Int32} (h : x = y) (hy : 0 ≤ y) (n : ¬ y = 0) : ¬ x ≤ 0 := by rw [h]; exact fun w => n ((rb_le0 hy).mp w)
theorem i_vc_winner {k : Nat} {u : SX} {v : SY} (I : i_Rel k u v) (hk : k + 4 ≤ 2048) (v1 : Int32) : wpX_winner (fun r => wpY_winner (fun r' v' => r' = r ∧ i_Rel (k + 4) u v') v v1) u v1 := by
  obtain ⟨d, a, mo, P, S, Q, m, A, B, C, bf, rfl, rfl, hd, hM, hF⟩ := I
  unfold wpX_winner wX_winner_33 wpY_winner
  dsimp only
  rcases rb_nx' v1 with hn | ⟨n, hn, rfl⟩
  · refine rb_xfc (fun z => absurd hn (fun w => w.elim z.1 z.2)) (fun _ => br_t rfl (br_c (fun _ => ⟨rfl, rb_R hd hM hF⟩) (fun h1 => br_f (fun h2 => ?_) ⟨rfl, rb_R hd hM hF⟩)))
    exact hn.elim h1 (fun w => absurd h2 (Int32.not_le.mpr w))
  · have ok := rb_Ok_pl m n
    rw [hF n hn] at ok
    have k0 : 0 ≤ S (2 * n) := ok.1.1
    have k1 : 0 ≤ S (2 * n + 1) := ok.1.2
    refine rb_xfc (fun _ => br_f rb_10 (rb_xout (p := 0) (by decide) hn (fun s0 => rb_xout (p := 1) (by decide) hn (fun s1 => br_f rb_10 (br_f rb_10 ?_)) (fun s1 => br_f rb_10 (br_t rfl (br_t rfl (br_f rb_10 ?_))))) (fun s0 => rb_xout (p := 1) (by decide) hn (fun s1 => br_t rfl (br_f rb_10 ?_)) (fun s1 => br_t rfl (br_t rfl (br_t rfl ?_)))))) (fun z => absurd z (rb_fc40 hn))
    · refine br_f (nI_pos (by omega)) (br_t (nI_le (b := 40) hn (by omega)) (rb_yp hn (fun A' B' C' e => ?_)))
      have z0 : B' 0 = 0 := (rb_at_p (e.trans (hF n hn)) (p := 0) (by decide)).2.1.trans s0
      have z1 : B' 1 = 0 := (rb_at_p (e.trans (hF n hn)) (p := 1) (by decide)).2.1.trans s1
      exact rb_yo (fun _ => br_f rb_10 (br_t (rb_z0 z0) (br_t (rb_z0 z1) ⟨rfl, rb_R hd hM hF⟩))) (fun w => absurd (Or.inl z0) w)
    · refine br_f (nI_pos (by omega)) (br_t (nI_le (b := 40) hn (by omega)) (rb_yp hn (fun A' B' C' e => ?_)))
      have z0 : B' 0 = 0 := (rb_at_p (e.trans (hF n hn)) (p := 0) (by decide)).2.1.trans s0
      have z1 : B' 1 = S (2 * n + 1) := (rb_at_p (e.trans (hF n hn)) (p := 1) (by decide)).2.1
      exact rb_yo (fun _ => br_f rb_10 (br_t (rb_z0 z0) (br_f (rb_z1 z1 k1 s1) ⟨rfl, rb_R hd hM hF⟩))) (fun w => absurd (Or.inl z0) w)
    · refine br_f (nI_pos (by omega)) (br_t (nI_le (b := 40) hn (by omega)) (rb_yp hn (fun A' B' C' e => ?_)))
      have z0 : B' 0 = S (2 * n) := (rb_at_p (e.trans (hF n hn)) (p := 0) (by decide)).2.1
      have z1 : B' 1 = 0 := (rb_at_p (e.trans (hF n hn)) (p := 1) (by decide)).2.1.trans s1
      exact rb_yo (fun _ => br_f rb_10 (br_f (rb_z1 z0 k0 s0) ⟨rfl, rb_R hd hM hF⟩)) (fun w => absurd (Or.inr z1) w)
    · refine br_f (nI_pos (by omega)) (br_t (nI_le (b := 40) hn (by omega)) (rb_yp hn (fun A' B' C' e => ?_)))
      have z0 : B' 0 = S (2 * n) := (rb_at_p (e.trans (hF n hn)) (p := 0) (by decide)).2.1
      have z1 : B' 1 = S (2 * n + 1) := (rb_at_p (e.trans (hF n hn)) (p := 1) (by decide)).2.1
      exact rb_yo (fun w => absurd w (fun y => y.elim (fun q => s0 (z0.symm.trans q)) (fun q => s1 (z1.symm.trans q)))) (fun _ => br_t rfl ⟨rfl, rb_R hd hM hF⟩)
theorem i_vc_overAfter {k : Nat} {u : SX} {v : SY} (I : i_Rel k u v) (hk : k + 4 ≤ 2048) : wpX_overAfter (fun r => wpY_overAfter (fun r' v' => r' = r ∧ i_Rel (k + 4) u v') v) u := by
  obtain ⟨d, a, mo, P, S, Q, m, A, B, C, bf, rfl, rfl, hd, hM, hF⟩ := I
  exact ⟨42, rb_xoa hF 41 0 rfl ⟨42, rb_yoa 41 0 A B C rfl (fun A' B' C' => ⟨rfl, rb_R hd hM hF⟩)⟩⟩
theorem i_vc_settled {k : Nat} {u : SX} {v : SY} (I : i_Rel k u v) (hk : k + 4 ≤ 2048) : wpX_settled (fun r => wpY_settled (fun r' v' => r' = r ∧ i_Rel (k + 4) u v') v) u := by
  obtain ⟨d, a, mo, P, S, Q, m, A, B, C, bf, rfl, rfl, hd, hM, hF⟩ := I
  unfold wpX_settled wpY_settled
  dsimp only
  have g := rb_sr_le m 40 0
  have gs : rb_sr m 40 0 ≤ 40 := by omega
  refine rb_xsr hM (pk_le d (rb_sr m 40 0) (fun h => ?_) (fun h => ?_))
  · exact rb_ysr (rb_yp gs (fun A' B' C' e => br_t (nI_le h (by omega)) ⟨rfl, rb_R hd hM hF⟩))
  · have hge : ¬ nI d ≤ nI (rb_sr m 40 0) := nI_ge h (by omega)
    refine rb_xo gs (fun ho => br_f rb_10 ?_) (fun ho => br_t rfl ?_)
    · refine rb_ysr (rb_yp gs (fun A' B' C' e => br_f hge (rb_yo (fun _ => br_f rb_10 ⟨rfl, rb_R hd hM hF⟩) (fun w => absurd ho ?_))))
      rw [← hF _ gs, ← e]
      exact w
    · refine rb_ysr (rb_yp gs (fun A' B' C' e => br_f hge (rb_yo (fun w => absurd w ?_) (fun _ => br_t rfl ⟨rfl, rb_R hd hM hF⟩))))
      rw [e, hF _ gs]
      exact ho
end
