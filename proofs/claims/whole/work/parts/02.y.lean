section
variable {d : Int32} {m A B C bf : Nat → Int32}
theorem rb_yply {post : Int32 → Prop} {v : SY} {x : Int32} (h1 : (x = 0 ∨ x = 1) → post 1) (h0 : ¬ (x = 0 ∨ x = 1) → post 0) : wpY_player post v x := by
  obtain ⟨d, m, A, B, C, bf⟩ := v
  exact br_c (fun z => h1 (Or.inl z)) (fun z => br_c (fun y => h1 (Or.inr y)) (fun y => h0 (fun w => w.elim z y)))
theorem rb_yfrm {post : Int32 → Prop} {v : SY} {x : Int32} (h1 : (¬ x < 0 ∧ ¬ 39 < x) → post 1) (h0 : (x < 0 ∨ 39 < x) → post 0) : wpY_frame post v x := by
  obtain ⟨d, m, A, B, C, bf⟩ := v
  exact br_c (fun z => h0 (Or.inl z)) (fun z => br_c (fun y => h0 (Or.inr y)) (fun y => h1 ⟨z, y⟩))
/-! the move used -/
theorem rb_yu32 {post : Int32 → Prop} {p : Nat} (hp : p < 2) : ∀ j, j ≤ 40 → post (rb_ug m (40 * p) j) → wY_used_32 post (nI p) d m A B C bf (j + 1) (nI j - 1) := by
  intro j
  induction j with
  | zero => intro _ h; exact br_t (by decide) h
  | succ j ih =>
    intro hj h
    rw [nI_pred, wY_used_32]
    dsimp only
    rw [rb_j, nI_clamp (by omega)]
    rw [rb_ug_s] at h
    refine br_f (nI_pos (by omega)) ⟨vp_in_nI (by omega) (by omega), br_c (fun h1 => ?_) (fun h1 => ⟨vp_in_nI (by omega) (by omega), nm_e (br_c (fun h2 => ?_) (fun h2 => ?_))⟩)⟩
    · rw [if_pos h1] at h
      exact nm_r (rb_m1 _) (ih (by omega) h)
    · rw [if_neg h1, if_pos h2] at h
      exact h
    · rw [if_neg h1, if_neg h2] at h
      exact h
theorem rb_yu {post : Int32 → Prop} {p k : Nat} (hp : p < 2) (hk : k < 40) (h : post (rb_ud m (40 * p) k)) : wpY_used post (d, m, A, B, C, bf) (nI p) (nI k) := by
  unfold wpY_used
  dsimp only
  rw [rb_j, nI_clamp (by omega)]
  unfold rb_ud at h
  refine ⟨vp_in_nI (by omega) (by omega), br_c (fun h1 => nm_e ?_) (fun h1 => ⟨vp_in_nI (by omega) (by omega), ?_⟩)⟩
  · rw [if_pos h1] at h
    exact ⟨k + 1, rb_yu32 hp k (by omega) h⟩
  · rw [if_neg h1] at h
    exact h
/-! over -/
theorem rb_yo {post : Int32 → Prop} (h1 : rb_ov (rb_at A B C 0) → post 1) (h0 : ¬ rb_ov (rb_at A B C 0) → post 0) : wpY_over post (d, m, A, B, C, bf) :=
  br_c (fun z => h1 (Or.inl z)) (fun z => br_c (fun y => h1 (Or.inr y)) (fun y => h0 (fun w => w.elim z y)))
/-! walk -/
theorem rb_yw38 {post : SY → Prop} {p : Nat} {g : Int32} (hp : p < 2) (h : ∀ A', A' p = rb_wg g (A p) (A (1 - p)) → A' (1 - p) = A (1 - p) → post (d, m, A', B, C, bf)) : wY_walk_38 post (nI p) g d m A B C bf := by
  unfold wY_walk_38
  rw [show (1 : Int32) - nI p = nI (1 - p) from pk_sub (a := 1) (by omega), nI_clamp (n := p) (by omega), nI_clamp (n := 1 - p) (by omega)]
  have i1 : vp_in (nI p) 2 := vp_in_nI hp (by omega)
  have i2 : vp_in (nI (1 - p)) 2 := vp_in_nI (by omega) (by omega)
  have ne : 1 - p ≠ p := by omega
  refine br_c (fun h1 => ⟨i1, i1, nm_e (h _ ?_ (pk_un ne))⟩) (fun h1 => br_c (fun h2 => ⟨i1, i1, nm_e (h _ ?_ (pk_un ne))⟩) (fun h2 => ⟨i2, br_c (fun h3 => ⟨i1, i1, nm_e (h _ ?_ (pk_un ne))⟩) (fun h3 => ⟨i1, nm_e (h _ ?_ (pk_un ne))⟩)⟩))
  · exact pk_us.trans (if_neg (fun z => z.1 h1)).symm
  · exact pk_us.trans (if_neg (fun z => z.2.1 h2)).symm
  · exact pk_us.trans (if_neg (fun z => z.2.2 h3)).symm
  · exact pk_us.trans (if_pos ⟨h1, h2, h3⟩).symm
theorem rb_yw {post : SY → Prop} {p : Nat} {t : Int32} (hp : p < 2) (h : ∀ A', A' p = rb_wk t (A p) (A (1 - p)) → A' (1 - p) = A (1 - p) → post (d, m, A', B, C, bf)) : wpY_walk post (d, m, A, B, C, bf) (nI p) t := by
  unfold wpY_walk
  dsimp only
  rw [nI_clamp (n := p) (by omega)]
  have i1 : vp_in (nI p) 2 := vp_in_nI hp (by omega)
  unfold rb_wk rb_go at h
  refine br_c (fun h1 => ⟨i1, rb_yw38 hp ?_⟩) (fun h1 => br_c (fun h2 => ⟨i1, rb_yw38 hp ?_⟩) (fun h2 => ⟨i1, rb_yw38 hp ?_⟩))
  · rw [if_pos h1] at h; exact h
  · rw [if_neg h1, if_pos h2] at h; exact h
  · rw [if_neg h1, if_neg h2] at h; exact h
/-! strikes -/
def rb_hf (t z s : Int32) : Int32 := if t = 3 ∧ ¬ z = 0 ∧ ¬ s ≤ 0 then s - 1 else s
theorem rb_hf_0 {t x y s : Int32} (h : ¬ (¬ x - y < -1 ∧ ¬ 1 < x - y)) : rb_hf t 0 s = rb_ht t x y s := by
  unfold rb_hf rb_ht
  rw [if_neg (fun z => z.2.1 rfl), if_neg (fun z => h z.2.1)]
theorem rb_hf_1 {t x y s : Int32} (h : ¬ x - y < -1 ∧ ¬ 1 < x - y) : rb_hf t 1 s = rb_ht t x y s := by
  unfold rb_hf rb_ht
  by_cases c : t = 3 ∧ ¬ s ≤ 0
  · rw [if_pos ⟨c.1, by decide, c.2⟩, if_pos ⟨c.1, h, c.2⟩]
  · rw [if_neg (fun z => c ⟨z.1, z.2.2⟩), if_neg (fun z => c ⟨z.1, z.2.2⟩)]
theorem rb_y204 {post : SY → Prop} {t z : Int32} (h : ∀ B' C', B' 0 = rb_hf t z (B 0) → B' 1 = B 1 → C' 0 = C 0 → C' 1 = rb_ps t (C 1) → post (d, m, A, B', C', bf)) : wY_step_204 post t z d m A B C bf := by
  unfold wY_step_204
  refine br_c (fun h1 => nm_e (br_c (fun h2 => nm_e (h _ _ ?_ (pk_un (by decide)) (pk_un (by decide)) ?_)) (fun h2 => br_c (fun h3 => nm_e (h _ _ ?_ (pk_un (by decide)) (pk_un (by decide)) ?_)) (fun h3 => nm_e (h _ _ ?_ (pk_un (by decide)) (pk_un (by decide)) ?_))))) (fun h1 => h _ _ ?_ rfl rfl ?_)
  · exact pk_us.trans (if_neg (fun w => w.2.1 h2)).symm
  · exact pk_us.trans (if_pos h1).symm
  · exact pk_us.trans (if_neg (fun w => w.2.2 h3)).symm
  · exact pk_us.trans (if_pos h1).symm
  · exact pk_us.trans (if_pos ⟨h1, h2, h3⟩).symm
  · exact pk_us.trans (if_pos h1).symm
  · exact (if_neg (fun w => h1 w.1)).symm
  · exact (if_neg h1).symm
theorem rb_y203 {post : SY → Prop} {t z s : Int32} (h : ∀ B' C', B' 0 = rb_hf t z (B 0) → B' 1 = s → C' 0 = C 0 → C' 1 = rb_ps t (C 1) → post (d, m, A, B', C', bf)) : wY_step_203 post t z s 1 d m A B C bf := by
  unfold wY_step_203
  refine ⟨vp_in_nI (n := 1) (by decide) (by decide), nm_e (rb_y204 ?_)⟩
  intro B' C' b0 b1 c0 c1
  exact h B' C' (b0.trans (congrArg (rb_hf t z) (pk_un (by decide)))) (b1.trans pk_us) c0 c1
theorem rb_y152 {post : SY → Prop} {t0 t1 z : Int32} (h : ∀ B' C', B' 0 = rb_hf t1 z (B 0) → B' 1 = rb_hf t0 z (B 1) → C' 0 = rb_ps t0 (C 0) → C' 1 = rb_ps t1 (C 1) → post (d, m, A, B', C', bf)) : wY_step_152 post t0 t1 z d m A B C bf := by
  unfold wY_step_152 wY_step_197
  refine br_c (fun h1 => nm_e (br_c (fun h2 => rb_y203 ?_) (fun h2 => br_c (fun h3 => rb_y203 ?_) (fun h3 => rb_y203 ?_)))) (fun h1 => rb_y204 ?_)
  · intro B' C' b0 b1 c0 c1
    refine h B' C' b0 (b1.trans ?_) (c0.trans ?_) (c1.trans ?_)
    · exact (if_neg (fun w => w.2.1 h2)).symm
    · exact pk_us.trans (if_pos h1).symm
    · rw [pk_un (by decide)]
  · intro B' C' b0 b1 c0 c1
    refine h B' C' b0 (b1.trans ?_) (c0.trans ?_) (c1.trans ?_)
    · exact (if_neg (fun w => w.2.2 h3)).symm
    · exact pk_us.trans (if_pos h1).symm
    · rw [pk_un (by decide)]
  · intro B' C' b0 b1 c0 c1
    refine h B' C' b0 (b1.trans ?_) (c0.trans ?_) (c1.trans ?_)
    · exact (if_pos ⟨h1, h2, h3⟩).symm
    · exact pk_us.trans (if_pos h1).symm
    · rw [pk_un (by decide)]
  · intro B' C' b0 b1 c0 c1
    exact h B' C' b0 (b1.trans (if_neg (fun w => h1 w.1)).symm) (c0.trans (if_neg h1).symm) c1
/-! one frame, from the walks on -/
theorem rb_y105 {post : SY → Prop} {t0 t1 q : Int32} (h : ∀ A' B' C', rb_at A' B' C' 0 = (rb_wk t0 (A 0) (A 1), rb_wk t1 (A 1) (rb_wk t0 (A 0) (A 1)), rb_ht t1 (rb_wk t0 (A 0) (A 1)) (rb_wk t1 (A 1) (rb_wk t0 (A 0) (A 1))) (B 0), rb_ht t0 (rb_wk t0 (A 0) (A 1)) (rb_wk t1 (A 1) (rb_wk t0 (A 0) (A 1))) (B 1), rb_ps t0 (C 0), rb_ps t1 q) → post (d, m, A', B', C', bf)) : wY_step_105 post t0 t1 q 1 d m A B C bf := by
  unfold wY_step_105
  refine ⟨vp_in_nI (n := 1) (by decide) (by decide), nm_e ?_⟩
  refine rb_yw (p := 0) (by decide) (fun A1 a0 a1 => ?_)
  refine rb_yw (p := 1) (by decide) (fun A2 e1 e0 => ?_)
  have x1 : A1 1 = A 1 := a1
  have x0 : A1 0 = rb_wk t0 (A 0) (A 1) := a0
  have y1 : A2 1 = rb_wk t1 (A1 1) (A1 0) := e1
  have y0 : A2 0 = A1 0 := e0
  rw [x1, x0] at y1
  rw [x0] at y0
  have c0 : upd C 1 q 0 = C 0 := pk_un (by decide)
  have c1 : upd C 1 q 1 = q := pk_us
  have fin : ∀ z : Int32, rb_hf t1 z (B 0) = rb_ht t1 (A2 0) (A2 1) (B 0) → rb_hf t0 z (B 1) = rb_ht t0 (A2 0) (A2 1) (B 1) → wY_step_152 post t0 t1 z d m A2 B (upd C 1 q) bf := by
    intro z z0 z1
    refine rb_y152 (fun B' C' b0 b1 k0 k1 => h A2 B' C' ?_)
    rw [c0] at k0
    rw [c1] at k1
    rw [z0] at b0
    rw [z1] at b1
    show (A2 0, A2 1, B' 0, B' 1, C' 0, C' 1) = _
    rw [b0, b1, k0, k1, y0, y1]
  refine nm_e (br_c (fun h1 => ?_) (fun h1 => br_c (fun h2 => ?_) (fun h2 => ?_)))
  · exact fin 0 (rb_hf_0 (fun w => w.1 h1)) (rb_hf_0 (fun w => w.1 h1))
  · exact fin 0 (rb_hf_0 (fun w => w.2 h2)) (rb_hf_0 (fun w => w.2 h2))
  · exact fin 1 (rb_hf_1 ⟨h1, h2⟩) (rb_hf_1 ⟨h1, h2⟩)
theorem rb_y60 {post : SY → Prop} {x2 x3 t0 t1 : Int32} (h2 : x2 = 0 ↔ ¬ C 0 = 0) (h3 : x3 = 0 ↔ ¬ C 1 = 0) (h : ∀ A' B' C', rb_at A' B' C' 0 = rb_s1 t0 t1 (A 0) (A 1) (B 0) (B 1) (C 0) (C 1) → post (d, m, A', B', C', bf)) : wY_step_60 post x2 x3 t0 t1 d m A B C bf := by
  unfold wY_step_60 wY_step_83
  have i0 : vp_in 0 2 := vp_in_nI (n := 0) (by decide) (by decide)
  have n01 : ∀ q : Int32, upd C 0 q 1 = C 1 := fun q => pk_un (by decide)
  have n00 : ∀ q : Int32, upd C 0 q 0 = q := fun q => pk_us
  have cl0 : (0 : Int32).toNatClampNeg = 0 := by decide
  have key : ∀ q0 q1 : Int32, q0 = rb_es (C 0) → q1 = rb_es (C 1) → wY_step_105 post t0 t1 q1 1 d m A B (upd C 0 q0) bf := by
    intro q0 q1 e0 e1
    refine rb_y105 (fun A' B' C' e => h A' B' C' ?_)
    rw [n00, e0, e1] at e
    exact e
  rw [cl0]
  refine br_c (fun g2 => ⟨i0, nm_e (br_c (fun g3 => ?_) (fun g3 => ?_))⟩) (fun g2 => ⟨i0, nm_e (br_c (fun g3 => ?_) (fun g3 => ?_))⟩)
  · exact key _ _ (if_neg (h2.mp g2)).symm ((congrArg (· - 1) (n01 _)).trans (if_neg (h3.mp g3)).symm)
  · exact key _ _ (if_neg (h2.mp g2)).symm (if_pos (Decidable.not_not.mp (fun w => g3 (h3.mpr w)))).symm
  · exact key _ _ (if_pos (Decidable.not_not.mp (fun w => g2 (h2.mpr w)))).symm ((congrArg (· - 1) (n01 _)).trans (if_neg (h3.mp g3)).symm)
  · exact key _ _ (if_pos (Decidable.not_not.mp (fun w => g2 (h2.mpr w)))).symm (if_pos (Decidable.not_not.mp (fun w => g3 (h3.mpr w)))).symm
theorem rb_ys {post : SY → Prop} {k : Nat} (hk : k < 40) (h : ∀ A' B' C', rb_at A' B' C' 0 = rb_st (rb_ud m (40 * 0) k) (rb_ud m (40 * 1) k) (rb_at A B C 0) → post (d, m, A', B', C', bf)) : wpY_step post (d, m, A, B, C, bf) (nI k) := by
  unfold wpY_step
  dsimp only
  unfold wY_step_14 wY_step_29 wY_step_44
  have n10 : ¬ (1 : Int32) = 0 := by decide
  have key : ∀ x2 x3 t0 t1 : Int32, (x2 = 0 ↔ ¬ C 0 = 0) → (x3 = 0 ↔ ¬ C 1 = 0) → t0 = rb_tk (C 0) (rb_ud m (40 * 0) k) → t1 = rb_tk (C 1) (rb_ud m (40 * 1) k) → wY_step_60 post x2 x3 t0 t1 d m A B C bf := by
    intro x2 x3 t0 t1 h2 h3 e0 e1
    refine rb_y60 h2 h3 (fun A' B' C' e => h A' B' C' ?_)
    rw [e0, e1] at e
    exact e
  refine br_c (fun c0 => br_c (fun c1 => ?_) (fun c1 => ?_)) (fun c0 => br_c (fun c1 => ?_) (fun c1 => ?_))
  · refine br_f n10 (rb_yu (p := 0) (by decide) hk (br_f n10 (rb_yu (p := 1) (by decide) hk ?_)))
    exact key 1 1 _ _ ⟨fun w => absurd w n10, fun w => absurd c0 w⟩ ⟨fun w => absurd w n10, fun w => absurd c1 w⟩ (if_pos c0).symm (if_pos c1).symm
  · refine br_f n10 (rb_yu (p := 0) (by decide) hk (br_t rfl ?_))
    exact key 1 0 _ _ ⟨fun w => absurd w n10, fun w => absurd c0 w⟩ ⟨fun _ => c1, fun _ => rfl⟩ (if_pos c0).symm (if_neg c1).symm
  · refine br_t rfl (br_f n10 (rb_yu (p := 1) (by decide) hk ?_))
    exact key 0 1 _ _ ⟨fun _ => c0, fun _ => rfl⟩ ⟨fun w => absurd w n10, fun w => absurd c1 w⟩ (if_neg c0).symm (if_pos c1).symm
  · refine br_t rfl (br_t rfl ?_)
    exact key 0 0 _ _ ⟨fun _ => c0, fun _ => rfl⟩ ⟨fun _ => c1, fun _ => rfl⟩ (if_neg c0).symm (if_neg c1).symm
end
