section
variable {d : Int32} {m A B C bf : Nat → Int32}
theorem rb_10 : ¬ (1 : Int32) = 0 := by decide
theorem rb_yp44 {post : SY → Prop} {n : Nat} (hn : n ≤ 40) (h : ∀ A' B' C', rb_at A' B' C' 0 = rb_pl m n → post (d, m, A', B', C', bf)) : ∀ r k (A B C : Nat → Int32), k + r = n → rb_at A B C 0 = rb_pl m k → wY_play_44 post (nI n) (r + 1) (nI k) d m A B C bf := by
  intro r
  induction r with
  | zero =>
    intro k A B C hk e
    obtain rfl : k = n := by omega
    exact br_t (nI_le (Nat.le_refl k) (by omega)) (h A B C e)
  | succ r ih =>
    intro k A B C hk e
    refine br_f (nI_ge (a := k) (b := n) (by omega) (by omega)) (rb_yo (fun ho => br_f rb_10 (h A B C ?_)) (fun ho => br_t rfl (rb_ys (by omega) (fun A' B' C' e' => nm_r (nI_1 k) (ih (k + 1) A' B' C' (by omega) ?_)))))
    · rw [e] at ho ⊢
      have := rb_pl_ov ho (n - k)
      rw [show k + (n - k) = n from by omega] at this
      exact this.symm
    · rw [e] at ho e'
      rw [e', rb_pl_s]
      exact (if_neg ho).symm
theorem rb_yp {post : SY → Prop} {n : Nat} (hn : n ≤ 40) (h : ∀ A' B' C', rb_at A' B' C' 0 = rb_pl m n → post (d, m, A', B', C', bf)) : wpY_play post (d, m, A, B, C, bf) (nI n) := by
  unfold wpY_play
  dsimp only
  have i0 : vp_in 0 2 := vp_in_nI (n := 0) (by decide) (by decide)
  have i1 : vp_in 1 2 := vp_in_nI (n := 1) (by decide) (by decide)
  refine nm_e (nm_e ⟨0 + 1 + 1 + 1, ?_⟩)
  refine br_f (by decide) ⟨i0, nm_e ⟨i0, nm_e (nm_r (e' := 1) (by decide) ?_)⟩⟩
  refine br_f (by decide) ⟨i1, nm_e ⟨i1, nm_e (nm_r (e' := 2) (by decide) ?_)⟩⟩
  refine br_t (by decide) ⟨n + 1, rb_yp44 hn h n 0 _ _ _ (by omega) ?_⟩
  rfl
theorem rb_ypc {post : Int32 → SY → Prop} {n : Nat} (hn : n ≤ 40) (h : ∀ A' B' C', rb_at A' B' C' 0 = rb_pl m n → post (rb_cd (rb_pl m n)) (d, m, A', B', C', bf)) : wpY_picture post (d, m, A, B, C, bf) (nI n) := by
  unfold wpY_picture
  refine rb_yp hn (fun A' B' C' e => ?_)
  have h' := h A' B' C' e
  rw [← e] at h'
  exact h'
theorem rb_ya92 {post : Int32 → SY → Prop} {D : Nat} (hD : D ≤ 40) (e : Nat → Int32) (hb : ∀ i, 1 ≤ i → i ≤ D → bf i = e i) (fin : ∀ A' B' C', post (nI (rb_cn e (fun i => rb_cd (rb_pl m i)) D)) (nI D, m, A', B', C', bf)) : ∀ r k (A B C : Nat → Int32), k + r = D → wY_arrive_92 post (r + 1) (nI (rb_cn e (fun i => rb_cd (rb_pl m i)) k)) (nI (k + 1)) (nI D) m A B C bf := by
  intro r
  induction r with
  | zero =>
    intro k A B C hk
    obtain rfl : k = D := by omega
    exact br_t (nI_lt (by omega) (by omega)) (fin A B C)
  | succ r ih =>
    intro k A B C hk
    rw [wY_arrive_92]
    dsimp only
    rw [nI_clamp (n := k + 1) (by omega)]
    refine br_f (nI_nlt (by omega) (by omega)) (rb_ypc (n := k + 1) (by omega) (fun A' B' C' _ => ⟨vp_in_nI (by omega) (by omega), br_c (fun h => nm_r (nI_1 _) ?_) (fun h => nm_r (nI_1 _) (nm_r (nI_1 _) ?_))⟩))
    · have := ih (k + 1) A' B' C' (by omega)
      rw [rb_cn_s, if_pos (h.trans (hb (k + 1) (by omega) (by omega)))] at this
      exact this
    · have := ih (k + 1) A' B' C' (by omega)
      rw [rb_cn_s, if_neg (fun z => h (z.trans (hb (k + 1) (by omega) (by omega)).symm))] at this
      exact this
theorem rb_ya44 {post : Int32 → SY → Prop} {D p f c : Nat} (hD : D ≤ 40) (hp : p < 2) (hf : f < 40) (fin : ∀ A' B' C' bf', post (nI (rb_cn (fun i => rb_cd (rb_pl m i)) (fun i => rb_cd (rb_pl (upd m (40 * p + f) (nI c + 1)) i)) D)) (nI D, upd m (40 * p + f) (nI c + 1), A', B', C', bf')) : ∀ r k (A B C bf : Nat → Int32), k + r = D → (∀ i, 1 ≤ i → i ≤ k → bf i = rb_cd (rb_pl m i)) → wY_arrive_44 post (nI p) (nI f) (nI c) (r + 1) (nI (k + 1)) (nI D) m A B C bf := by
  intro r
  induction r with
  | zero =>
    intro k A B C bf hk hb
    obtain rfl : k = D := by omega
    rw [wY_arrive_44]
    dsimp only
    rw [rb_j, nI_clamp (n := 40 * p + f) (by omega)]
    exact br_t (nI_lt (by omega) (by omega)) ⟨vp_in_nI (by omega) (by omega), nm_e ⟨k + 1, rb_ya92 hD _ hb (fun A' B' C' => fin A' B' C' bf) k 0 A B C (by omega)⟩⟩
  | succ r ih =>
    intro k A B C bf hk hb
    rw [wY_arrive_44]
    dsimp only
    rw [nI_clamp (n := k + 1) (by omega)]
    refine br_f (nI_nlt (by omega) (by omega)) (rb_ypc (n := k + 1) (by omega) (fun A' B' C' _ => ⟨vp_in_nI (by omega) (by omega), nm_e (nm_r (nI_1 _) (ih (k + 1) A' B' C' _ (by omega) ?_))⟩))
    intro i h1 h2
    by_cases e : i = k + 1
    · rw [e, pk_us]
    · rw [pk_un e]
      exact hb i h1 (by omega)
theorem rb_ya {post : Int32 → SY → Prop} {D p f c : Nat} (hD : D ≤ 40) (hp : p < 2) (hf : f < 40) (hc : c < 4) (hm : m (40 * p + f) ≤ 0) (fin : ∀ A' B' C' bf', post (nI (rb_cn (fun i => rb_cd (rb_pl m i)) (fun i => rb_cd (rb_pl (upd m (40 * p + f) (nI c + 1)) i)) D)) (nI D, upd m (40 * p + f) (nI c + 1), A', B', C', bf')) : wpY_arrive post (nI D, m, A, B, C, bf) (nI p) (nI f) (nI c) := by
  unfold wpY_arrive
  dsimp only
  refine rb_yply (fun _ => br_f rb_10 (rb_yfrm (fun _ => br_f rb_10 (br_f (nI_pos (by omega)) (br_f (nI_nlt (a := 3) (by omega) (by omega)) ?_))) (fun z => absurd z ?_))) (fun z => absurd ?_ z)
  · rw [rb_j, nI_clamp (n := 40 * p + f) (by omega)]
    exact ⟨vp_in_nI (by omega) (by omega), br_t hm ⟨D + 1, rb_ya44 hD hp hf fin D 0 A B C bf (by omega) (fun i h1 h2 => by omega)⟩⟩
  · intro w
    exact w.elim (nI_pos (by omega)) (nI_nlt (a := 39) (by omega) (by omega))
  · rcases (by omega : p = 0 ∨ p = 1) with rfl | rfl
    · exact Or.inl rfl
    · exact Or.inr rfl
/-! sure -/
theorem rb_ysr2 {post : Int32 → Prop} : ∀ r k, k + r = 40 → post (nI (rb_sr m r k)) → wY_sure_2 post d m A B C bf (r + 1) (nI k) := by
  intro r
  induction r with
  | zero =>
    intro k hk h
    obtain rfl : k = 40 := by omega
    exact br_t (by decide) h
  | succ r ih =>
    intro k hk h
    rw [wY_sure_2]
    dsimp only
    rw [show (40 : Int32) + nI k = nI (40 * 1 + k) from nI_add 40 k, nI_clamp (n := k) (by omega), nI_clamp (n := 40 * 1 + k) (by omega)]
    rw [rb_sr_s, show 40 * 0 + k = k from by omega] at h
    refine br_f (nI_ge (b := 40) (by omega) (by omega)) ⟨vp_in_nI (by omega) (by omega), br_c (fun h1 => ?_) (fun h1 => ⟨vp_in_nI (by omega) (by omega), br_c (fun h2 => ?_) (fun h2 => nm_r (nI_1 k) (ih (k + 1) (by omega) ?_))⟩)⟩
    · rw [if_pos (Or.inl h1)] at h; exact h
    · rw [if_pos (Or.inr h2)] at h; exact h
    · rw [if_neg (fun z => z.elim h1 h2)] at h; exact h
theorem rb_ysr {post : Int32 → Prop} (h : post (nI (rb_sr m 40 0))) : wpY_sure post (d, m, A, B, C, bf) := ⟨41, rb_ysr2 40 0 rfl h⟩
/-! missing -/
theorem rb_yms {post : Int32 → Prop} {p : Nat} (hp : p < 2) (hz : ∀ k, k < 40 → m (40 * p + k) = 0 ∨ ¬ m (40 * p + k) ≤ 0) : ∀ r k, k + r = 40 → (rb_gp m (40 * p) r k < 40 → post (nI (rb_gp m (40 * p) r k))) → (¬ rb_gp m (40 * p) r k < 40 → post (-2)) → wY_missing_2 post (nI p) d m A B C bf (r + 1) (nI k) := by
  have hpl : nI p = 0 ∨ nI p = 1 := by
    rcases (by omega : p = 0 ∨ p = 1) with rfl | rfl
    · exact Or.inl rfl
    · exact Or.inr rfl
  intro r
  induction r with
  | zero =>
    intro k hk h h2
    obtain rfl : k = 40 := by omega
    exact br_t (by decide) (rb_yply (fun _ => br_f rb_10 (h2 (Nat.lt_irrefl 40))) (fun z => absurd hpl z))
  | succ r ih =>
    intro k hk h h2
    rw [wY_missing_2]
    dsimp only
    rw [rb_j, nI_clamp (n := 40 * p + k) (by omega)]
    rw [rb_gp_s] at h h2
    refine br_f (nI_ge (b := 40) (by omega) (by omega)) (rb_yply (fun _ => br_f rb_10 ⟨vp_in_nI (by omega) (by omega), br_c (fun h1 => ?_) (fun h1 => nm_r (nI_1 k) ?_)⟩) (fun z => absurd hpl z))
    · rw [if_pos (by rw [h1]; exact Int32.le_refl 0)] at h
      exact h (by omega)
    · have n0 : ¬ m (40 * p + k) ≤ 0 := (hz k (by omega)).elim (fun z => absurd z h1) id
      rw [if_neg n0] at h h2
      exact ih (k + 1) (by omega) h h2
/-! overAfter -/
theorem rb_yoa {post : Int32 → SY → Prop} : ∀ r k (A B C : Nat → Int32), k + r = 41 → (∀ A' B' C', post (rb_oa m r k) (d, m, A', B', C', bf)) → wY_overAfter_2 post (r + 1) (nI k) d m A B C bf := by
  intro r
  induction r with
  | zero =>
    intro k A B C hk h
    obtain rfl : k = 41 := by omega
    exact br_t (by decide) (h A B C)
  | succ r ih =>
    intro k A B C hk h
    refine br_f (nI_nlt (b := k) (a := 40) (by omega) (by omega)) (rb_yp (by omega) (fun A' B' C' e => rb_yo (fun ho => br_f rb_10 ?_) (fun ho => br_t rfl (nm_r (nI_1 k) (ih (k + 1) A' B' C' (by omega) ?_)))))
    · rw [e] at ho
      have := h A' B' C'
      rw [rb_oa_s, if_pos ho] at this
      exact this
    · rw [e] at ho
      intro A2 B2 C2
      have := h A2 B2 C2
      rw [rb_oa_s, if_neg ho] at this
      exact this
end
