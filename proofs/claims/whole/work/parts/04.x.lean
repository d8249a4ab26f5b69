section
variable {fp : Int32} {a mo P S Q m : Nat → Int32}
theorem rb_xply {post : Int32 → Prop} {x : Int32} (h1 : (x = 0 ∨ x = 1) → post 1) (h0 : ¬ (x = 0 ∨ x = 1) → post 0) : wpX_isPlayer post x :=
  br_c (fun z => h1 (Or.inl z)) (fun z => br_c (fun y => h1 (Or.inr y)) (fun y => h0 (fun w => w.elim z y)))
theorem rb_xfrm {post : Int32 → Prop} {x : Int32} (h1 : (¬ x < 0 ∧ ¬ 40 ≤ x) → post 1) (h0 : (x < 0 ∨ 40 ≤ x) → post 0) : wpX_isFrame post x :=
  br_c (fun z => h0 (Or.inl z)) (fun z => br_c (fun y => h0 (Or.inr y)) (fun y => h1 ⟨z, y⟩))
theorem rb_xmov {post : Int32 → Prop} {x : Int32} (h1 : (¬ x < 0 ∧ ¬ 3 < x) → post 1) (h0 : (x < 0 ∨ 3 < x) → post 0) : wpX_isMove post x :=
  br_c (fun z => h0 (Or.inl z)) (fun z => br_c (fun y => h0 (Or.inr y)) (fun y => h1 ⟨z, y⟩))
theorem rb_xfc {post : Int32 → Prop} {x : Int32} (h1 : (¬ x < 0 ∧ ¬ 40 < x) → post 1) (h0 : (x < 0 ∨ 40 < x) → post 0) : wpX_isFrameCount post x :=
  br_c (fun z => h0 (Or.inl z)) (fun z => br_c (fun y => h0 (Or.inr y)) (fun y => h1 ⟨z, y⟩))
/-! the picture's number -/
theorem rb_xfd {post : Int32 → Prop} {n : Nat} (hn : n ≤ 40) (h : post (rb_cd (rb_at P S Q (2 * n)))) : wpX_fieldCode post (fp, a, mo, P, S, Q) (nI n) := by
  unfold wpX_fieldCode
  dsimp only
  have i0 : vp_in (nI (2 * n)) 82 := vp_in_nI (by omega) (by omega)
  have i1 : vp_in (nI (2 * n + 1)) 82 := vp_in_nI (by omega) (by omega)
  refine nm_r (rb_i2 n) ?_
  rw [nI_1, nI_clamp (n := 2 * n) (by omega), nI_clamp (n := 2 * n + 1) (by omega)]
  exact ⟨i0, i1, i0, i1, i0, i1, h⟩
/-! out, over -/
theorem rb_xout {post : Int32 → Prop} {p n : Nat} (hp : p < 2) (hn : n ≤ 40) (h1 : S (2 * n + p) = 0 → post 1) (h0 : ¬ S (2 * n + p) = 0 → post 0) : wpX_isOut post (fp, a, mo, P, S, Q) (nI p) (nI n) := by
  unfold wpX_isOut
  dsimp only
  rw [rb_i, nI_clamp (n := 2 * n + p) (by omega)]
  exact ⟨vp_in_nI (by omega) (by omega), br_c h1 h0⟩
theorem rb_xo {post : Int32 → Prop} {n : Nat} (hn : n ≤ 40) (h1 : rb_ov (rb_at P S Q (2 * n)) → post 1) (h0 : ¬ rb_ov (rb_at P S Q (2 * n)) → post 0) : wpX_isOver post (fp, a, mo, P, S, Q) (nI n) := by
  unfold wpX_isOver
  dsimp only
  refine rb_xout (p := 0) (by decide) hn (fun z => br_f rb_10 (h1 (Or.inl z))) (fun z => br_t rfl ?_)
  exact rb_xout (p := 1) (by decide) hn (fun y => br_f rb_10 (h1 (Or.inr y))) (fun y => br_t rfl (h0 (fun w => w.elim z y)))
/-! the move used -/
theorem rb_xu28 {post : Int32 → Prop} {p : Nat} (hp : p < 2) (hM : rb_Mv a mo m) : ∀ j, j ≤ 40 → post (rb_ug m (40 * p) j) → wX_usedMove_28 post (nI p) fp a mo P S Q (j + 1) (nI j - 1) := by
  intro j
  induction j with
  | zero => intro _ h; exact br_t (by decide) h
  | succ j ih =>
    intro hj h
    rw [nI_pred, wX_usedMove_28]
    dsimp only
    rw [rb_i, nI_clamp (n := 2 * j + p) (by omega)]
    rw [rb_ug_s] at h
    refine br_f (nI_pos (by omega)) ⟨vp_in_nI (by omega) (by omega), ?_⟩
    rcases hM p j hp (by omega) with ⟨ha, hm⟩ | ⟨ha, hm, hmo⟩
    · rw [if_pos (by rw [hm]; exact Int32.le_refl 0)] at h
      exact br_t ha (nm_r (rb_m1 _) (ih (by omega) h))
    · rw [if_neg hm, ← hmo] at h
      refine br_f ha ⟨vp_in_nI (by omega) (by omega), nm_e (br_c (fun h2 => ?_) (fun h2 => ?_))⟩
      · rw [if_pos h2] at h
        exact h
      · rw [if_neg h2] at h
        exact h
theorem rb_xu {post : Int32 → Prop} {p k : Nat} (hp : p < 2) (hk : k < 40) (hM : rb_Mv a mo m) (h : post (rb_ud m (40 * p) k)) : wpX_usedMove post (fp, a, mo, P, S, Q) (nI p) (nI k) := by
  unfold wpX_usedMove
  dsimp only
  rw [rb_i, nI_clamp (n := 2 * k + p) (by omega)]
  unfold rb_ud at h
  refine ⟨vp_in_nI (by omega) (by omega), ?_⟩
  rcases hM p k hp hk with ⟨ha, hm⟩ | ⟨ha, hm, hmo⟩
  · rw [if_pos (by rw [hm]; exact Int32.le_refl 0)] at h
    exact br_t ha (nm_e ⟨k + 1, rb_xu28 hp hM k (by omega) h⟩)
  · rw [if_neg hm, ← hmo] at h
    exact br_f ha ⟨vp_in_nI (by omega) (by omega), h⟩
theorem rb_xt {post : Int32 → Prop} {p k : Nat} (hp : p < 2) (hk : k < 40) (hM : rb_Mv a mo m) (hq : 0 ≤ Q (2 * k + p)) (h : post (rb_tk (Q (2 * k + p)) (rb_ud m (40 * p) k))) : wpX_takenMove post (fp, a, mo, P, S, Q) (nI p) (nI k) := by
  unfold wpX_takenMove
  dsimp only
  rw [rb_i, nI_clamp (n := 2 * k + p) (by omega), rb_le0 hq]
  unfold rb_tk at h
  refine ⟨vp_in_nI (by omega) (by omega), br_c (fun h1 => ?_) (fun h1 => ?_)⟩
  · rw [if_pos h1] at h
    exact rb_xu hp hk hM h
  · rw [if_neg h1] at h
    exact h
/-! the steps of a frame: i the own place, o the other's -/
theorem rb_xc {post : SX → Prop} {p n : Nat} (i : Nat) (hi : 2 * n + p = i + 2) (hn : n ≤ 40) (hp : p < 2) (h : ∀ P' S' Q', P' (i + 2) = P i → S' (i + 2) = S i → Q' (i + 2) = Q i → (∀ j, j ≠ i + 2 → P' j = P j) → (∀ j, j ≠ i + 2 → S' j = S j) → (∀ j, j ≠ i + 2 → Q' j = Q j) → post (fp, a, mo, P', S', Q')) : wpX_carryOver post (fp, a, mo, P, S, Q) (nI p) (nI n) := by
  unfold wpX_carryOver
  dsimp only
  have i0 : vp_in (nI (i + 2)) 82 := vp_in_nI (by omega) (by omega)
  have i1 : vp_in (nI i) 82 := vp_in_nI (by omega) (by omega)
  refine nm_r ((rb_i n p).trans (congrArg nI hi)) ?_
  rw [show nI (i + 2) - 2 = nI i from pk_sub (a := i + 2) (b := 2) (by omega), nI_clamp (n := i) (by omega), nI_clamp (n := i + 2) (by omega)]
  exact ⟨i1, i0, nm_e ⟨i1, i0, nm_e ⟨i1, i0, nm_e (h _ _ _ pk_us pk_us pk_us (fun j hj => pk_un hj) (fun j hj => pk_un hj) (fun j hj => pk_un hj))⟩⟩⟩
theorem rb_xe {post : SX → Prop} {p n : Nat} (i : Nat) (hi : 2 * n + p = i) (hn : n ≤ 40) (hp : p < 2) (hq : 0 ≤ Q i) (h : ∀ Q', Q' i = rb_es (Q i) → (∀ j, j ≠ i → Q' j = Q j) → post (fp, a, mo, P, S, Q')) : wpX_easePause post (fp, a, mo, P, S, Q) (nI p) (nI n) := by
  unfold wpX_easePause
  dsimp only
  have i0 : vp_in (nI i) 82 := vp_in_nI (by omega) (by omega)
  refine nm_r ((rb_i n p).trans (congrArg nI hi)) ?_
  rw [nI_clamp (n := i) (by omega), rb_le0 hq]
  refine ⟨i0, br_c (fun h1 => h Q ?_ (fun _ _ => rfl)) (fun h1 => ⟨i0, i0, nm_e (h _ ?_ (fun j hj => pk_un hj))⟩)⟩
  · exact h1.trans (if_pos h1).symm
  · exact pk_us.trans (if_neg h1).symm
theorem rb_xw31 {post : SX → Prop} {p n : Nat} {g : Int32} (i o : Nat) (hi : 2 * n + p = i) (ho : 2 * n + 1 - p = o) (hn : n ≤ 40) (hp : p < 2) (h : ∀ P', P' i = rb_wg g (P i) (P o) → (∀ j, j ≠ i → P' j = P j) → post (fp, a, mo, P', S, Q)) : wX_walk_31 post (nI p) (nI n) g fp a mo P S Q := by
  unfold wX_walk_31 wX_walk_47 wX_walk_48
  rw [rb_i, rb_i1 hp, hi, ho, nI_clamp (n := i) (by omega), nI_clamp (n := o) (by omega)]
  have i0 : vp_in (nI i) 82 := vp_in_nI (by omega) (by omega)
  have i1 : vp_in (nI o) 82 := vp_in_nI (by omega) (by omega)
  refine br_c (fun h1 => br_t rfl (h P ?_ (fun _ _ => rfl))) (fun h1 => br_c (fun h2 => br_t rfl (h P ?_ (fun _ _ => rfl))) (fun h2 => br_f rb_10 ⟨i1, br_c (fun h3 => h P ?_ (fun _ _ => rfl)) (fun h3 => ⟨i0, nm_e (h _ ?_ (fun j hj => pk_un hj))⟩)⟩))
  · exact (if_neg (fun z => z.1 h1)).symm
  · exact (if_neg (fun z => z.2.1 h2)).symm
  · exact (if_neg (fun z => z.2.2 h3)).symm
  · exact pk_us.trans (if_pos ⟨h1, h2, h3⟩).symm
theorem rb_xw {post : SX → Prop} {p n : Nat} {t : Int32} (i o : Nat) (hi : 2 * n + p = i) (ho : 2 * n + 1 - p = o) (hn : n ≤ 40) (hp : p < 2) (h : ∀ P', P' i = rb_wk t (P i) (P o) → (∀ j, j ≠ i → P' j = P j) → post (fp, a, mo, P', S, Q)) : wpX_walk post (fp, a, mo, P, S, Q) (nI p) (nI n) t := by
  unfold wpX_walk
  dsimp only
  rw [rb_i, hi, nI_clamp (n := i) (by omega)]
  have i0 : vp_in (nI i) 82 := vp_in_nI (by omega) (by omega)
  unfold rb_wk rb_go at h
  refine ⟨i0, nm_e (br_c (fun h1 => nm_r (rb_m1 _) (rb_xw31 i o hi ho hn hp ?_)) (fun h1 => br_c (fun h2 => nm_e (rb_xw31 i o hi ho hn hp ?_)) (fun h2 => rb_xw31 i o hi ho hn hp ?_)))⟩
  · rw [if_pos h1] at h; exact h
  · rw [if_neg h1, if_pos h2] at h; exact h
  · rw [if_neg h1, if_neg h2] at h; exact h
theorem rb_xs64 {post : SX → Prop} {z : Int32} (o : Nat) (ho : o < 82) (h : ∀ S', S' o = rb_hf 3 z (S o) → (∀ j, j ≠ o → S' j = S j) → post (fp, a, mo, P, S', Q)) : wX_strike_64 post (nI o) z fp a mo P S Q := by
  unfold wX_strike_64
  rw [nI_clamp (n := o) (by omega)]
  have i0 : vp_in (nI o) 82 := vp_in_nI (by omega) (by omega)
  refine br_c (fun h1 => h S ?_ (fun _ _ => rfl)) (fun h1 => ⟨i0, br_c (fun h2 => h S ?_ (fun _ _ => rfl)) (fun h2 => ⟨i0, i0, nm_e (h _ ?_ (fun j hj => pk_un hj))⟩)⟩)
  · exact (if_neg (fun w => w.2.1 h1)).symm
  · exact (if_neg (fun w => w.2.2 h2)).symm
  · exact pk_us.trans (if_pos ⟨rfl, h1, h2⟩).symm
theorem rb_xs {post : SX → Prop} {p n : Nat} {t : Int32} (i o : Nat) (hi : 2 * n + p = i) (ho : 2 * n + 1 - p = o) (hn : n ≤ 40) (hp : p < 2) (h : ∀ S' Q', S' o = rb_ht t (P i) (P o) (S o) → Q' i = rb_ps t (Q i) → (∀ j, j ≠ o → S' j = S j) → (∀ j, j ≠ i → Q' j = Q j) → post (fp, a, mo, P, S', Q')) : wpX_strike post (fp, a, mo, P, S, Q) (nI p) (nI n) t := by
  unfold wpX_strike
  dsimp only
  have i0 : vp_in (nI i) 82 := vp_in_nI (by omega) (by omega)
  have i1 : vp_in (nI o) 82 := vp_in_nI (by omega) (by omega)
  refine br_c (fun h1 => nm_r ((rb_i n p).trans (congrArg nI hi)) (nm_r ((rb_i1 hp).trans (congrArg nI ho)) ?_)) (fun h1 => h S Q (if_neg (fun w => h1 w.1)).symm (if_neg h1).symm (fun _ _ => rfl) (fun _ _ => rfl))
  subst h1
  rw [nI_clamp (n := i) (by omega), nI_clamp (n := o) (by omega)]
  have fin : ∀ z : Int32, rb_hf 3 z (S o) = rb_ht 3 (P i) (P o) (S o) → wX_strike_64 post (nI o) z fp a mo P S (upd Q i 2) := by
    intro z hz
    exact rb_xs64 o (by omega) (fun S' e1 e2 => h S' _ (e1.trans hz) (pk_us.trans (if_pos rfl).symm) e2 (fun j hj => pk_un hj))
  refine ⟨i0, nm_e ⟨i0, i1, nm_e (br_c (fun h1 => ?_) (fun h1 => br_c (fun h2 => ?_) (fun h2 => ?_)))⟩⟩
  · exact fin 0 (rb_hf_0 (fun w => w.1 h1))
  · exact fin 0 (rb_hf_0 (fun w => w.2 h2))
  · exact fin 1 (rb_hf_1 ⟨h1, h2⟩)
end
