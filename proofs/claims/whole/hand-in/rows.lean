section
section
/-! rows of kit/rows, pasted -/
theorem pk_us {f : Nat → Int32} {k : Nat} {x : Int32} : upd f k x k = x := if_pos rfl
theorem pk_un {f : Nat → Int32} {k j : Nat} {x : Int32} (h : j ≠ k) : upd f k x j = f j := if_neg h
theorem pk_sub {a b : Nat} (h : b ≤ a) : nI a - nI b = nI (a - b) := by
  obtain ⟨c, rfl⟩ : ∃ c, a = c + b := ⟨a - b, by omega⟩
  rw [← nI_add, Int32.add_sub_cancel, Nat.add_sub_cancel]
theorem pk_m1 (n : Nat) : nI (n + 1) + (-1) = nI n := by
  rw [← nI_1, Int32.add_assoc, show (1 : Int32) + (-1) = 0 from rfl, Int32.add_zero]
theorem pk_mul (a b : Nat) : nI a * nI b = nI (a * b) := (Int32.ofNat_mul a b).symm
theorem pk_ix (x : Int32) {n : Nat} (hn : n < 2 ^ 31) : x < 0 ∨ nI n ≤ x ∨ ∃ j : Nat, j < n ∧ x = nI j := by
  by_cases h : x < 0
  · exact Or.inl h
  · obtain ⟨j, hj, rfl⟩ := nI_of h
    by_cases h2 : j < n
    · exact Or.inr (Or.inr ⟨j, h2, rfl⟩)
    · exact Or.inr (Or.inl (nI_le (by omega) hj))
theorem pk_le {x y : Int32} {A B : Prop} (a b : Nat) (f : a ≤ b → A) (g : b < a → B) (hx : x = nI a := by rfl) (hy : y = nI b := by rfl) (ha : a < 2 ^ 31 := by omega) (hb : b < 2 ^ 31 := by omega) : (x ≤ y → A) ∧ (¬ x ≤ y → B) := by
  subst hx hy
  rw [nI_leI ha hb]
  exact ⟨f, fun z => g (by omega)⟩
theorem pk_lt {x y : Int32} {A B : Prop} (a b : Nat) (f : a < b → A) (g : b ≤ a → B) (hx : x = nI a := by rfl) (hy : y = nI b := by rfl) (ha : a < 2 ^ 31 := by omega) (hb : b < 2 ^ 31 := by omega) : (x < y → A) ∧ (¬ x < y → B) := by
  subst hx hy
  rw [nI_ltI ha hb]
  exact ⟨f, fun z => g (by omega)⟩
theorem pk_in {x : Int32} (n N : Nat) (h : n < N) (hx : x = nI n := by rfl) (hN : N < 2 ^ 31 := by omega) : vp_in x N := by
  subst hx
  exact vp_in_nI h hN
theorem pk_cl {x : Int32} (n : Nat) (hx : x = nI n := by rfl) (h : n < 2 ^ 31 := by omega) : x.toNatClampNeg = n := by
  subst hx
  exact nI_clamp h
/-! the game, pure: one frame -/
def rb_go (t x : Int32) : Int32 := if t = 1 then x - 1 else if t = 2 then x + 1 else x
def rb_wg (g x y : Int32) : Int32 := if ¬ g < 0 ∧ ¬ 9 < g ∧ ¬ g = y then g else x
def rb_wk (t x y : Int32) : Int32 := rb_wg (rb_go t x) x y
def rb_ht (t x y s : Int32) : Int32 := if t = 3 ∧ (¬ x - y < -1 ∧ ¬ 1 < x - y) ∧ ¬ s ≤ 0 then s - 1 else s
def rb_es (q : Int32) : Int32 := if q = 0 then 0 else q - 1
def rb_ps (t q : Int32) : Int32 := if t = 3 then 2 else q
def rb_tk (q t : Int32) : Int32 := if q = 0 then t else 0
abbrev rb_F : Type := Int32 × Int32 × Int32 × Int32 × Int32 × Int32
def rb_s2 (m0 m1 y0 y1 s0 s1 q0 q1 : Int32) : rb_F := (y0, y1, rb_ht m1 y0 y1 s0, rb_ht m0 y0 y1 s1, rb_ps m0 (rb_es q0), rb_ps m1 (rb_es q1))
def rb_s1 (m0 m1 x0 x1 s0 s1 q0 q1 : Int32) : rb_F := rb_s2 m0 m1 (rb_wk m0 x0 x1) (rb_wk m1 x1 (rb_wk m0 x0 x1)) s0 s1 q0 q1
def rb_st (t0 t1 : Int32) (g : rb_F) : rb_F := match g with
  | (x0, x1, s0, s1, q0, q1) => rb_s1 (rb_tk q0 t0) (rb_tk q1 t1) x0 x1 s0 s1 q0 q1
abbrev rb_ov (g : rb_F) : Prop := g.2.2.1 = 0 ∨ g.2.2.2.1 = 0
def rb_nx (t0 t1 : Int32) (g : rb_F) : rb_F := if rb_ov g then g else rb_st t0 t1 g
/-! the move used, and what is shown after n frames; m holds 0 or the move and one, player p's from 40 * p on -/
def rb_ug (m : Nat → Int32) (b : Nat) : Nat → Int32
  | 0 => 0
  | k + 1 => if m (b + k) ≤ 0 then rb_ug m b k else (if m (b + k) - 1 = 3 then 0 else m (b + k) - 1)
theorem rb_ug_s (m : Nat → Int32) (b k : Nat) : rb_ug m b (k + 1) = if m (b + k) ≤ 0 then rb_ug m b k else (if m (b + k) - 1 = 3 then 0 else m (b + k) - 1) := rfl
def rb_ud (m : Nat → Int32) (b k : Nat) : Int32 := if m (b + k) ≤ 0 then rb_ug m b k else m (b + k) - 1
def rb_pl (m : Nat → Int32) : Nat → rb_F
  | 0 => (2, 7, 5, 5, 0, 0)
  | n + 1 => rb_nx (rb_ud m (40 * 0) n) (rb_ud m (40 * 1) n) (rb_pl m n)
theorem rb_pl_s (m : Nat → Int32) (n : Nat) : rb_pl m (n + 1) = rb_nx (rb_ud m (40 * 0) n) (rb_ud m (40 * 1) n) (rb_pl m n) := rfl
theorem rb_pl_ov {m : Nat → Int32} {n : Nat} (h : rb_ov (rb_pl m n)) : ∀ j, rb_pl m (n + j) = rb_pl m n := by
  intro j
  induction j with
  | zero => rfl
  | succ j ih =>
    show rb_pl m ((n + j) + 1) = _
    rw [rb_pl_s, ih]
    exact if_pos h
theorem rb_ug_eq {m m' : Nat → Int32} {b : Nat} : ∀ k, (∀ i, i < k → m (b + i) = m' (b + i)) → rb_ug m b k = rb_ug m' b k := by
  intro k
  induction k with
  | zero => intro _; rfl
  | succ k ih =>
    intro h
    show (if m (b + k) ≤ 0 then rb_ug m b k else (if m (b + k) - 1 = 3 then 0 else m (b + k) - 1)) = (if m' (b + k) ≤ 0 then rb_ug m' b k else (if m' (b + k) - 1 = 3 then 0 else m' (b + k) - 1))
    rw [h k (by omega), ih (fun i hi => h i (by omega))]
theorem rb_ud_eq {m m' : Nat → Int32} {b : Nat} (k : Nat) (h : ∀ i, i < k + 1 → m (b + i) = m' (b + i)) : rb_ud m b k = rb_ud m' b k := by
  unfold rb_ud
  rw [h k (by omega), rb_ug_eq k (fun i hi => h i (by omega))]
theorem rb_pl_eq {m m' : Nat → Int32} : ∀ n, (∀ p i, p < 2 → i < n → m (40 * p + i) = m' (40 * p + i)) → rb_pl m n = rb_pl m' n := by
  intro n
  induction n with
  | zero => intro _; rfl
  | succ n ih =>
    intro h
    rw [rb_pl_s, rb_pl_s, ih (fun p i hp hi => h p i hp (by omega)), rb_ud_eq n (fun i hi => h 0 i (by omega) hi), rb_ud_eq n (fun i hi => h 1 i (by omega) hi)]
/-! strengths and pauses are not negative -/
theorem rb_le0 {q : Int32} (h : 0 ≤ q) : q ≤ 0 ↔ q = 0 :=
  ⟨fun z => Int32.le_antisymm z h, fun z => by rw [z]; exact Int32.le_refl 0⟩
theorem rb_dec {q : Int32} (h : 0 ≤ q) (h0 : ¬ q = 0) : 0 ≤ q - 1 := by
  obtain ⟨j, hj, rfl⟩ := nI_of (x := q) (Int32.not_lt.mpr h)
  obtain ⟨i, rfl⟩ : ∃ i, j = i + 1 := ⟨j - 1, by
    have : j ≠ 0 := fun z => h0 (by rw [z, nI_0])
    omega⟩
  rw [nI_pred]
  exact nI_pos' (by omega)
theorem rb_ok_es {q : Int32} (h : 0 ≤ q) : 0 ≤ rb_es q := by
  unfold rb_es
  split
  · exact Int32.le_refl 0
  · exact rb_dec h (by assumption)
theorem rb_ok_ps {t q : Int32} (h : 0 ≤ q) : 0 ≤ rb_ps t q := by
  unfold rb_ps
  split
  · decide
  · exact h
theorem rb_ok_ht {t x y s : Int32} (h : 0 ≤ s) : 0 ≤ rb_ht t x y s := by
  unfold rb_ht
  split
  · rename_i z
    exact rb_dec h (fun e => z.2.2 ((rb_le0 h).mpr e))
  · exact h
def rb_Ok (g : rb_F) : Prop := (0 ≤ g.2.2.1 ∧ 0 ≤ g.2.2.2.1) ∧ 0 ≤ g.2.2.2.2.1 ∧ 0 ≤ g.2.2.2.2.2
theorem rb_Ok_nx {t0 t1 : Int32} {g : rb_F} (h : rb_Ok g) : rb_Ok (rb_nx t0 t1 g) := by
  unfold rb_nx
  split
  · exact h
  · obtain ⟨x0, x1, s0, s1, q0, q1⟩ := g
    exact ⟨⟨rb_ok_ht h.1.1, rb_ok_ht h.1.2⟩, rb_ok_ps (rb_ok_es h.2.1), rb_ok_ps (rb_ok_es h.2.2)⟩
theorem rb_Ok_pl (m : Nat → Int32) : ∀ n, rb_Ok (rb_pl m n) := by
  intro n
  induction n with
  | zero => exact (⟨⟨by decide, by decide⟩, by decide, by decide⟩ : rb_Ok (2, 7, 5, 5, 0, 0))
  | succ n ih => rw [rb_pl_s]; exact rb_Ok_nx ih
/-! near is near from both sides -/
theorem rb_near {x y : Int32} : (¬ y - x < -1 ∧ ¬ 1 < y - x) ↔ (¬ x - y < -1 ∧ ¬ 1 < x - y) := by
  have e : y - x = -(x - y) := Int32.neg_sub.symm
  rw [e]
  generalize x - y = d
  have h1 : ((-1 : Int32)).toInt = -1 := by decide
  have h2 : ((1 : Int32)).toInt = 1 := by decide
  rw [Int32.lt_iff_toInt_lt, Int32.lt_iff_toInt_lt, Int32.lt_iff_toInt_lt, Int32.lt_iff_toInt_lt, h1, h2, Int32.toInt_neg]
  have a := Int32.toInt_lt d
  have b := Int32.le_toInt d
  generalize d.toInt = z at a b ⊢
  by_cases hz : z = -2 ^ 31
  · subst hz; decide
  · rw [Int.bmod_eq_of_le (by omega) (by omega)]; omega
/-! the picture's number, and how many differ -/
def rb_cd (g : rb_F) : Int32 := match g with
  | (x0, x1, s0, s1, q0, q1) => x0 + 10 * x1 + 100 * s0 + 1000 * s1 + 10000 * q0 + 100000 * q1
def rb_cn (e e' : Nat → Int32) : Nat → Nat
  | 0 => 0
  | n + 1 => if e' (n + 1) = e (n + 1) then rb_cn e e' n else rb_cn e e' n + 1
theorem rb_cn_s (e e' : Nat → Int32) (n : Nat) : rb_cn e e' (n + 1) = if e' (n + 1) = e (n + 1) then rb_cn e e' n else rb_cn e e' n + 1 := rfl
theorem rb_cn_0 {e e' : Nat → Int32} : ∀ n, (∀ k, k ≤ n → e' k = e k) → rb_cn e e' n = 0 := by
  intro n
  induction n with
  | zero => intro _; rfl
  | succ n ih =>
    intro h
    rw [rb_cn_s, if_pos (h (n + 1) (by omega))]
    exact ih (fun k hk => h k (by omega))
theorem rb_cn_le (e e' : Nat → Int32) : ∀ n, rb_cn e e' n ≤ n := by
  intro n
  induction n with
  | zero => exact Nat.le_refl 0
  | succ n ih =>
    rw [rb_cn_s]
    split <;> omega
theorem rb_cn_eq {e e' c c' : Nat → Int32} : ∀ n, (∀ k, k ≤ n → c k = e k) → (∀ k, k ≤ n → c' k = e' k) → rb_cn c c' n = rb_cn e e' n := by
  intro n
  induction n with
  | zero => intro _ _; rfl
  | succ n ih =>
    intro h h'
    rw [rb_cn_s, rb_cn_s, h (n + 1) (by omega), h' (n + 1) (by omega), ih (fun k hk => h k (by omega)) (fun k hk => h' k (by omega))]
/-! the first gap, the sure frames, the fight's end -/
def rb_gp (m : Nat → Int32) (b : Nat) : Nat → Nat → Nat
  | 0, k => k
  | d + 1, k => if m (b + k) ≤ 0 then k else rb_gp m b d (k + 1)
theorem rb_gp_s (m : Nat → Int32) (b d k : Nat) : rb_gp m b (d + 1) k = if m (b + k) ≤ 0 then k else rb_gp m b d (k + 1) := rfl
theorem rb_gp_le (m : Nat → Int32) (b : Nat) : ∀ d k, k ≤ rb_gp m b d k ∧ rb_gp m b d k ≤ k + d := by
  intro d
  induction d with
  | zero => intro k; exact ⟨Nat.le_refl k, Nat.le_refl k⟩
  | succ d ih =>
    intro k
    rw [rb_gp_s]
    have := ih (k + 1)
    split <;> omega
def rb_sr (m : Nat → Int32) : Nat → Nat → Nat
  | 0, k => k
  | d + 1, k => if m (40 * 0 + k) ≤ 0 ∨ m (40 * 1 + k) ≤ 0 then k else rb_sr m d (k + 1)
theorem rb_sr_s (m : Nat → Int32) (d k : Nat) : rb_sr m (d + 1) k = if m (40 * 0 + k) ≤ 0 ∨ m (40 * 1 + k) ≤ 0 then k else rb_sr m d (k + 1) := rfl
theorem rb_sr_eq (m : Nat → Int32) : ∀ d k, rb_sr m d k = if rb_gp m (40 * 0) d k < rb_gp m (40 * 1) d k then rb_gp m (40 * 0) d k else rb_gp m (40 * 1) d k := by
  intro d
  induction d with
  | zero =>
    intro k
    show k = if k < k then k else k
    rw [if_neg (Nat.lt_irrefl k)]
  | succ d ih =>
    intro k
    have h0 := rb_gp_le m (40 * 0) d (k + 1)
    have h1 := rb_gp_le m (40 * 1) d (k + 1)
    rw [rb_sr_s, rb_gp_s, rb_gp_s, ih]
    by_cases c0 : m (40 * 0 + k) ≤ 0
    · rw [if_pos (Or.inl c0), if_pos c0]
      by_cases c1 : m (40 * 1 + k) ≤ 0
      · rw [if_pos c1, if_neg (by omega)]
      · rw [if_neg c1, if_pos (by omega)]
    · rw [if_neg c0]
      by_cases c1 : m (40 * 1 + k) ≤ 0
      · rw [if_pos (Or.inr c1), if_pos c1, if_neg (by omega)]
      · rw [if_neg (fun z => z.elim c0 c1), if_neg c1]
theorem rb_sr_le (m : Nat → Int32) : ∀ d k, k ≤ rb_sr m d k ∧ rb_sr m d k ≤ k + d := by
  intro d k
  have h0 := rb_gp_le m (40 * 0) d k
  have h1 := rb_gp_le m (40 * 1) d k
  rw [rb_sr_eq]
  split <;> omega
def rb_oa (m : Nat → Int32) : Nat → Nat → Int32
  | 0, _ => -2
  | d + 1, k => if rb_ov (rb_pl m k) then nI k else rb_oa m d (k + 1)
theorem rb_oa_s (m : Nat → Int32) (d k : Nat) : rb_oa m (d + 1) k = if rb_ov (rb_pl m k) then nI k else rb_oa m d (k + 1) := rfl
/-! what the two sides hold -/
def rb_Mv (a mo m : Nat → Int32) : Prop := ∀ p k, p < 2 → k < 40 → (a (2 * k + p) = 0 ∧ m (40 * p + k) = 0) ∨ (¬ a (2 * k + p) = 0 ∧ ¬ m (40 * p + k) ≤ 0 ∧ mo (2 * k + p) = m (40 * p + k) - 1)
def rb_at (P S Q : Nat → Int32) (i : Nat) : rb_F := (P i, P (i + 1), S i, S (i + 1), Q i, Q (i + 1))
theorem rb_Mv_0 : rb_Mv (fun _ => 0) (fun _ => 0) (fun _ => 0) := fun _ _ _ _ => Or.inl ⟨rfl, rfl⟩
theorem rb_c1 {c : Nat} (hc : c < 4) : ¬ nI c + 1 ≤ 0 := by
  rw [nI_1, ← nI_0]
  exact nI_ge (by omega) (by omega)
theorem rb_Mv_put {a mo m : Nat → Int32} {p f c : Nat} (h : rb_Mv a mo m) (hp : p < 2) (hf : f < 40) (hc : c < 4) : rb_Mv (upd a (2 * f + p) 1) (upd mo (2 * f + p) (nI c)) (upd m (40 * p + f) (nI c + 1)) := by
  intro p' k hp' hk
  by_cases e : p' = p ∧ k = f
  · obtain ⟨rfl, rfl⟩ := e
    rw [pk_us, pk_us, pk_us]
    exact Or.inr ⟨by decide, rb_c1 hc, by rw [nI_1, nI_pred]⟩
  · have e1 : 2 * k + p' ≠ 2 * f + p := by omega
    have e2 : 40 * p' + k ≠ 40 * p + f := by omega
    rw [pk_un e1, pk_un e1, pk_un e2]
    exact h p' k hp' hk
theorem rb_pl_put {m : Nat → Int32} {p f n : Nat} {x : Int32} (hp : p < 2) (hf : f < 40) (hn : n ≤ f) : rb_pl (upd m (40 * p + f) x) n = rb_pl m n :=
  rb_pl_eq n (fun p' i hp' hi => pk_un (by omega))
/-! what X counts as it goes -/
def rb_cx (e e' : Nat → Int32) (d f : Nat) : Nat := rb_cn e e' (if f < d then f else d)
theorem rb_cx_t {e e' : Nat → Int32} {d f : Nat} (h : f < d) (hn : ¬ e' (f + 1) = e (f + 1)) : rb_cx e e' d (f + 1) = rb_cx e e' d f + 1 := by
  unfold rb_cx
  rw [if_pos h]
  by_cases h2 : f + 1 < d
  · rw [if_pos h2, rb_cn_s, if_neg hn]
  · rw [if_neg h2]
    obtain rfl : d = f + 1 := by omega
    rw [rb_cn_s, if_neg hn]
theorem rb_cx_e {e e' : Nat → Int32} {d f : Nat} (hn : e' (f + 1) = e (f + 1)) : rb_cx e e' d (f + 1) = rb_cx e e' d f := by
  unfold rb_cx
  by_cases h : f < d
  · rw [if_pos h]
    by_cases h2 : f + 1 < d
    · rw [if_pos h2, rb_cn_s, if_pos hn]
    · rw [if_neg h2]
      obtain rfl : d = f + 1 := by omega
      rw [rb_cn_s, if_pos hn]
  · rw [if_neg h, if_neg (by omega)]
theorem rb_cx_d {e e' : Nat → Int32} {d f : Nat} (h : d ≤ f) : rb_cx e e' d (f + 1) = rb_cx e e' d f := by
  unfold rb_cx
  rw [if_neg (by omega), if_neg (by omega)]
theorem rb_cx_end {e e' : Nat → Int32} {d : Nat} (h : d ≤ 40) : rb_cx e e' d 40 = rb_cn e e' d := by
  unfold rb_cx
  by_cases h2 : 40 < d
  · exact absurd h2 (by omega)
  · rw [if_neg h2]
theorem rb_cx_0 {e e' : Nat → Int32} {d f : Nat} (h : ∀ k, k ≤ f → e' k = e k) : rb_cx e e' d f = 0 :=
  rb_cn_0 _ (fun k hk => h k (by split at hk <;> omega))
/-! index arithmetic -/
theorem rb_i (f p : Nat) : 2 * nI f + nI p = nI (2 * f + p) := by
  rw [show (2 : Int32) = nI 2 from rfl, pk_mul, nI_add]
theorem rb_j (p f : Nat) : 40 * nI p + nI f = nI (40 * p + f) := by
  rw [show (40 : Int32) = nI 40 from rfl, pk_mul, nI_add]
theorem rb_i1 {f p : Nat} (hp : p < 2) : 2 * nI f + 1 - nI p = nI (2 * f + 1 - p) := by
  rw [show (2 : Int32) = nI 2 from rfl, pk_mul, nI_1, pk_sub (by omega)]
theorem rb_i2 (f : Nat) : 2 * nI f = nI (2 * f) := by
  rw [show (2 : Int32) = nI 2 from rfl, pk_mul]
theorem rb_m1 (x : Int32) : x + (-1) = x - 1 := (Int32.sub_eq_add_neg x 1).symm
end
end
section
section
variable {d : Int32} {m A B C bf : Nat → Int32}
theorem rb_yply {post : Int32 → Prop} {v : SY} {x : Int32} (h1 : (x = 0 ∨ x = 1) → post 1) (h0 : ¬ (x = 0 ∨ x = 1) → post 0) : wpY_player post v x := by
  obtain ⟨d, m, A, B, C, bf⟩ := v
  exact br_c (fun z => h1 (Or.inl z)) (fun z => br_c (fun y => h1 (Or.inr y)) (fun y => h0 (fun w => w.elim z y)))
theorem rb_yfrm {post : Int32 → Prop} {v : SY} {x : Int32} (h1 : (¬ x < 0 ∧ ¬ 39 < x) → post 1) (h0 : (x < 0 ∨ 39 < x) → post 0) : wpY_frame post v x := by
  obtain ⟨d, m, A, B, C, bf⟩ := v
  exact br_c (fun z => h0 (Or.inl z)) (fun z => br_c (fun y => h0 (Or.inr y)) (fun y => h1 ⟨z, y⟩))
/-! the move used -/
theorem rb_yu32 {post : Int32 → Prop} {p : Nat} (hp : p < 2) : ∀ j, j ≤ 40 → post (rb_ug m (40 * p) j) → wY_used_32 post (nI p) d m A B C bf (j + 1) (nI j - 1) := by
  intro j
  induction j with
  | zero => intro _ h; exact br_t (by decide) h
  | succ j ih =>
    intro hj h
    rw [nI_pred, wY_used_32]
    dsimp only
    rw [rb_j, nI_clamp (by omega)]
    rw [rb_ug_s] at h
    refine br_f (nI_pos (by omega)) ⟨vp_in_nI (by omega) (by omega), br_c (fun h1 => ?_) (fun h1 => ⟨vp_in_nI (by omega) (by omega), nm_e (br_c (fun h2 => ?_) (fun h2 => ?_))⟩)⟩
    · rw [if_pos h1] at h
      exact nm_r (rb_m1 _) (ih (by omega) h)
    · rw [if_neg h1, if_pos h2] at h
      exact h
    · rw [if_neg h1, if_neg h2] at h
      exact h
theorem rb_yu {post : Int32 → Prop} {p k : Nat} (hp : p < 2) (hk : k < 40) (h : post (rb_ud m (40 * p) k)) : wpY_used post (d, m, A, B, C, bf) (nI p) (nI k) := by
  unfold wpY_used
  dsimp only
  rw [rb_j, nI_clamp (by omega)]
  unfold rb_ud at h
  refine ⟨vp_in_nI (by omega) (by omega), br_c (fun h1 => nm_e ?_) (fun h1 => ⟨vp_in_nI (by omega) (by omega), ?_⟩)⟩
  · rw [if_pos h1] at h
    exact ⟨k + 1, rb_yu32 hp k (by omega) h⟩
  · rw [if_neg h1] at h
    exact h
/-! over -/
theorem rb_yo {post : Int32 → Prop} (h1 : rb_ov (rb_at A B C 0) → post 1) (h0 : ¬ rb_ov (rb_at A B C 0) → post 0) : wpY_over post (d, m, A, B, C, bf) :=
  br_c (fun z => h1 (Or.inl z)) (fun z => br_c (fun y => h1 (Or.inr y)) (fun y => h0 (fun w => w.elim z y)))
/-! walk -/
theorem rb_yw38 {post : SY → Prop} {p : Nat} {g : Int32} (hp : p < 2) (h : ∀ A', A' p = rb_wg g (A p) (A (1 - p)) → A' (1 - p) = A (1 - p) → post (d, m, A', B, C, bf)) : wY_walk_38 post (nI p) g d m A B C bf := by
  unfold wY_walk_38
  rw [show (1 : Int32) - nI p = nI (1 - p) from pk_sub (a := 1) (by omega), nI_clamp (n := p) (by omega), nI_clamp (n := 1 - p) (by omega)]
  have i1 : vp_in (nI p) 2 := vp_in_nI hp (by omega)
  have i2 : vp_in (nI (1 - p)) 2 := vp_in_nI (by omega) (by omega)
  have ne : 1 - p ≠ p := by omega
  refine br_c (fun h1 => ⟨i1, i1, nm_e (h _ ?_ (pk_un ne))⟩) (fun h1 => br_c (fun h2 => ⟨i1, i1, nm_e (h _ ?_ (pk_un ne))⟩) (fun h2 => ⟨i2, br_c (fun h3 => ⟨i1, i1, nm_e (h _ ?_ (pk_un ne))⟩) (fun h3 => ⟨i1, nm_e (h _ ?_ (pk_un ne))⟩)⟩))
  · exact pk_us.trans (if_neg (fun z => z.1 h1)).symm
  · exact pk_us.trans (if_neg (fun z => z.2.1 h2)).symm
  · exact pk_us.trans (if_neg (fun z => z.2.2 h3)).symm
  · exact pk_us.trans (if_pos ⟨h1, h2, h3⟩).symm
theorem rb_yw {post : SY → Prop} {p : Nat} {t : Int32} (hp : p < 2) (h : ∀ A', A' p = rb_wk t (A p) (A (1 - p)) → A' (1 - p) = A (1 - p) → post (d, m, A', B, C, bf)) : wpY_walk post (d, m, A, B, C, bf) (nI p) t := by
  unfold wpY_walk
  dsimp only
  rw [nI_clamp (n := p) (by omega)]
  have i1 : vp_in (nI p) 2 := vp_in_nI hp (by omega)
  unfold rb_wk rb_go at h
  refine br_c (fun h1 => ⟨i1, rb_yw38 hp ?_⟩) (fun h1 => br_c (fun h2 => ⟨i1, rb_yw38 hp ?_⟩) (fun h2 => ⟨i1, rb_yw38 hp ?_⟩))
  · rw [if_pos h1] at h; exact h
  · rw [if_neg h1, if_pos h2] at h; exact h
  · rw [if_neg h1, if_neg h2] at h; exact h
/-! strikes -/
def rb_hf (t z s : Int32) : Int32 := if t = 3 ∧ ¬ z = 0 ∧ ¬ s ≤ 0 then s - 1 else s
theorem rb_hf_0 {t x y s : Int32} (h : ¬ (¬ x - y < -1 ∧ ¬ 1 < x - y)) : rb_hf t 0 s = rb_ht t x y s := by
  unfold rb_hf rb_ht
  rw [if_neg (fun z => z.2.1 rfl), if_neg (fun z => h z.2.1)]
theorem rb_hf_1 {t x y s : Int32} (h : ¬ x - y < -1 ∧ ¬ 1 < x - y) : rb_hf t 1 s = rb_ht t x y s := by
  unfold rb_hf rb_ht
  by_cases c : t = 3 ∧ ¬ s ≤ 0
  · rw [if_pos ⟨c.1, by decide, c.2⟩, if_pos ⟨c.1, h, c.2⟩]
  · rw [if_neg (fun z => c ⟨z.1, z.2.2⟩), if_neg (fun z => c ⟨z.1, z.2.2⟩)]
theorem rb_y204 {post : SY → Prop} {t z : Int32} (h : ∀ B' C', B' 0 = rb_hf t z (B 0) → B' 1 = B 1 → C' 0 = C 0 → C' 1 = rb_ps t (C 1) → post (d, m, A, B', C', bf)) : wY_step_204 post t z d m A B C bf := by
  unfold wY_step_204
  refine br_c (fun h1 => nm_e (br_c (fun h2 => nm_e (h _ _ ?_ (pk_un (by decide)) (pk_un (by decide)) ?_)) (fun h2 => br_c (fun h3 => nm_e (h _ _ ?_ (pk_un (by decide)) (pk_un (by decide)) ?_)) (fun h3 => nm_e (h _ _ ?_ (pk_un (by decide)) (pk_un (by decide)) ?_))))) (fun h1 => h _ _ ?_ rfl rfl ?_)
  · exact pk_us.trans (if_neg (fun w => w.2.1 h2)).symm
  · exact pk_us.trans (if_pos h1).symm
  · exact pk_us.trans (if_neg (fun w => w.2.2 h3)).symm
  · exact pk_us.trans (if_pos h1).symm
  · exact pk_us.trans (if_pos ⟨h1, h2, h3⟩).symm
  · exact pk_us.trans (if_pos h1).symm
  · exact (if_neg (fun w => h1 w.1)).symm
  · exact (if_neg h1).symm
theorem rb_y203 {post : SY → Prop} {t z s : Int32} (h : ∀ B' C', B' 0 = rb_hf t z (B 0) → B' 1 = s → C' 0 = C 0 → C' 1 = rb_ps t (C 1) → post (d, m, A, B', C', bf)) : wY_step_203 post t z s 1 d m A B C bf := by
  unfold wY_step_203
  refine ⟨vp_in_nI (n := 1) (by decide) (by decide), nm_e (rb_y204 ?_)⟩
  intro B' C' b0 b1 c0 c1
  exact h B' C' (b0.trans (congrArg (rb_hf t z) (pk_un (by decide)))) (b1.trans pk_us) c0 c1
theorem rb_y152 {post : SY → Prop} {t0 t1 z : Int32} (h : ∀ B' C', B' 0 = rb_hf t1 z (B 0) → B' 1 = rb_hf t0 z (B 1) → C' 0 = rb_ps t0 (C 0) → C' 1 = rb_ps t1 (C 1) → post (d, m, A, B', C', bf)) : wY_step_152 post t0 t1 z d m A B C bf := by
  unfold wY_step_152 wY_step_197
  refine br_c (fun h1 => nm_e (br_c (fun h2 => rb_y203 ?_) (fun h2 => br_c (fun h3 => rb_y203 ?_) (fun h3 => rb_y203 ?_)))) (fun h1 => rb_y204 ?_)
  · intro B' C' b0 b1 c0 c1
    refine h B' C' b0 (b1.trans ?_) (c0.trans ?_) (c1.trans ?_)
    · exact (if_neg (fun w => w.2.1 h2)).symm
    · exact pk_us.trans (if_pos h1).symm
    · rw [pk_un (by decide)]
  · intro B' C' b0 b1 c0 c1
    refine h B' C' b0 (b1.trans ?_) (c0.trans ?_) (c1.trans ?_)
    · exact (if_neg (fun w => w.2.2 h3)).symm
    · exact pk_us.trans (if_pos h1).symm
    · rw [pk_un (by decide)]
  · intro B' C' b0 b1 c0 c1
    refine h B' C' b0 (b1.trans ?_) (c0.trans ?_) (c1.trans ?_)
    · exact (if_pos ⟨h1, h2, h3⟩).symm
    · exact pk_us.trans (if_pos h1).symm
    · rw [pk_un (by decide)]
  · intro B' C' b0 b1 c0 c1
    exact h B' C' b0 (b1.trans (if_neg (fun w => h1 w.1)).symm) (c0.trans (if_neg h1).symm) c1
/-! one frame, from the walks on -/
theorem rb_y105 {post : SY → Prop} {t0 t1 q : Int32} (h : ∀ A' B' C', rb_at A' B' C' 0 = (rb_wk t0 (A 0) (A 1), rb_wk t1 (A 1) (rb_wk t0 (A 0) (A 1)), rb_ht t1 (rb_wk t0 (A 0) (A 1)) (rb_wk t1 (A 1) (rb_wk t0 (A 0) (A 1))) (B 0), rb_ht t0 (rb_wk t0 (A 0) (A 1)) (rb_wk t1 (A 1) (rb_wk t0 (A 0) (A 1))) (B 1), rb_ps t0 (C 0), rb_ps t1 q) → post (d, m, A', B', C', bf)) : wY_step_105 post t0 t1 q 1 d m A B C bf := by
  unfold wY_step_105
  refine ⟨vp_in_nI (n := 1) (by decide) (by decide), nm_e ?_⟩
  refine rb_yw (p := 0) (by decide) (fun A1 a0 a1 => ?_)
  refine rb_yw (p := 1) (by decide) (fun A2 e1 e0 => ?_)
  have x1 : A1 1 = A 1 := a1
  have x0 : A1 0 = rb_wk t0 (A 0) (A 1) := a0
  have y1 : A2 1 = rb_wk t1 (A1 1) (A1 0) := e1
  have y0 : A2 0 = A1 0 := e0
  rw [x1, x0] at y1
  rw [x0] at y0
  have c0 : upd C 1 q 0 = C 0 := pk_un (by decide)
  have c1 : upd C 1 q 1 = q := pk_us
  have fin : ∀ z : Int32, rb_hf t1 z (B 0) = rb_ht t1 (A2 0) (A2 1) (B 0) → rb_hf t0 z (B 1) = rb_ht t0 (A2 0) (A2 1) (B 1) → wY_step_152 post t0 t1 z d m A2 B (upd C 1 q) bf := by
    intro z z0 z1
    refine rb_y152 (fun B' C' b0 b1 k0 k1 => h A2 B' C' ?_)
    rw [c0] at k0
    rw [c1] at k1
    rw [z0] at b0
    rw [z1] at b1
    show (A2 0, A2 1, B' 0, B' 1, C' 0, C' 1) = _
    rw [b0, b1, k0, k1, y0, y1]
  refine nm_e (br_c (fun h1 => ?_) (fun h1 => br_c (fun h2 => ?_) (fun h2 => ?_)))
  · exact fin 0 (rb_hf_0 (fun w => w.1 h1)) (rb_hf_0 (fun w => w.1 h1))
  · exact fin 0 (rb_hf_0 (fun w => w.2 h2)) (rb_hf_0 (fun w => w.2 h2))
  · exact fin 1 (rb_hf_1 ⟨h1, h2⟩) (rb_hf_1 ⟨h1, h2⟩)
theorem rb_y60 {post : SY → Prop} {x2 x3 t0 t1 : Int32} (h2 : x2 = 0 ↔ ¬ C 0 = 0) (h3 : x3 = 0 ↔ ¬ C 1 = 0) (h : ∀ A' B' C', rb_at A' B' C' 0 = rb_s1 t0 t1 (A 0) (A 1) (B 0) (B 1) (C 0) (C 1) → post (d, m, A', B', C', bf)) : wY_step_60 post x2 x3 t0 t1 d m A B C bf := by
  unfold wY_step_60 wY_step_83
  have i0 : vp_in 0 2 := vp_in_nI (n := 0) (by decide) (by decide)
  have n01 : ∀ q : Int32, upd C 0 q 1 = C 1 := fun q => pk_un (by decide)
  have n00 : ∀ q : Int32, upd C 0 q 0 = q := fun q => pk_us
  have cl0 : (0 : Int32).toNatClampNeg = 0 := by decide
  have key : ∀ q0 q1 : Int32, q0 = rb_es (C 0) → q1 = rb_es (C 1) → wY_step_105 post t0 t1 q1 1 d m A B (upd C 0 q0) bf := by
    intro q0 q1 e0 e1
    refine rb_y105 (fun A' B' C' e => h A' B' C' ?_)
    rw [n00, e0, e1] at e
    exact e
  rw [cl0]
  refine br_c (fun g2 => ⟨i0, nm_e (br_c (fun g3 => ?_) (fun g3 => ?_))⟩) (fun g2 => ⟨i0, nm_e (br_c (fun g3 => ?_) (fun g3 => ?_))⟩)
  · exact key _ _ (if_neg (h2.mp g2)).symm ((congrArg (· - 1) (n01 _)).trans (if_neg (h3.mp g3)).symm)
  · exact key _ _ (if_neg (h2.mp g2)).symm (if_pos (Decidable.not_not.mp (fun w => g3 (h3.mpr w)))).symm
  · exact key _ _ (if_pos (Decidable.not_not.mp (fun w => g2 (h2.mpr w)))).symm ((congrArg (· - 1) (n01 _)).trans (if_neg (h3.mp g3)).symm)
  · exact key _ _ (if_pos (Decidable.not_not.mp (fun w => g2 (h2.mpr w)))).symm (if_pos (Decidable.not_not.mp (fun w => g3 (h3.mpr w)))).symm
theorem rb_ys {post : SY → Prop} {k : Nat} (hk : k < 40) (h : ∀ A' B' C', rb_at A' B' C' 0 = rb_st (rb_ud m (40 * 0) k) (rb_ud m (40 * 1) k) (rb_at A B C 0) → post (d, m, A', B', C', bf)) : wpY_step post (d, m, A, B, C, bf) (nI k) := by
  unfold wpY_step
  dsimp only
  unfold wY_step_14 wY_step_29 wY_step_44
  have n10 : ¬ (1 : Int32) = 0 := by decide
  have key : ∀ x2 x3 t0 t1 : Int32, (x2 = 0 ↔ ¬ C 0 = 0) → (x3 = 0 ↔ ¬ C 1 = 0) → t0 = rb_tk (C 0) (rb_ud m (40 * 0) k) → t1 = rb_tk (C 1) (rb_ud m (40 * 1) k) → wY_step_60 post x2 x3 t0 t1 d m A B C bf := by
    intro x2 x3 t0 t1 h2 h3 e0 e1
    refine rb_y60 h2 h3 (fun A' B' C' e => h A' B' C' ?_)
    rw [e0, e1] at e
    exact e
  refine br_c (fun c0 => br_c (fun c1 => ?_) (fun c1 => ?_)) (fun c0 => br_c (fun c1 => ?_) (fun c1 => ?_))
  · refine br_f n10 (rb_yu (p := 0) (by decide) hk (br_f n10 (rb_yu (p := 1) (by decide) hk ?_)))
    exact key 1 1 _ _ ⟨fun w => absurd w n10, fun w => absurd c0 w⟩ ⟨fun w => absurd w n10, fun w => absurd c1 w⟩ (if_pos c0).symm (if_pos c1).symm
  · refine br_f n10 (rb_yu (p := 0) (by decide) hk (br_t rfl ?_))
    exact key 1 0 _ _ ⟨fun w => absurd w n10, fun w => absurd c0 w⟩ ⟨fun _ => c1, fun _ => rfl⟩ (if_pos c0).symm (if_neg c1).symm
  · refine br_t rfl (br_f n10 (rb_yu (p := 1) (by decide) hk ?_))
    exact key 0 1 _ _ ⟨fun _ => c0, fun _ => rfl⟩ ⟨fun w => absurd w n10, fun w => absurd c1 w⟩ (if_neg c0).symm (if_pos c1).symm
  · refine br_t rfl (br_t rfl ?_)
    exact key 0 0 _ _ ⟨fun _ => c0, fun _ => rfl⟩ ⟨fun _ => c1, fun _ => rfl⟩ (if_neg c0).symm (if_neg c1).symm
end
end
section
section
variable {d : Int32} {m A B C bf : Nat → Int32}
theorem rb_10 : ¬ (1 : Int32) = 0 := by decide
theorem rb_yp44 {post : SY → Prop} {n : Nat} (hn : n ≤ 40) (h : ∀ A' B' C', rb_at A' B' C' 0 = rb_pl m n → post (d, m, A', B', C', bf)) : ∀ r k (A B C : Nat → Int32), k + r = n → rb_at A B C 0 = rb_pl m k → wY_play_44 post (nI n) (r + 1) (nI k) d m A B C bf := by
  intro r
  induction r with
  | zero =>
    intro k A B C hk e
    obtain rfl : k = n := by omega
    exact br_t (nI_le (Nat.le_refl k) (by omega)) (h A B C e)
  | succ r ih =>
    intro k A B C hk e
    refine br_f (nI_ge (a := k) (b := n) (by omega) (by omega)) (rb_yo (fun ho => br_f rb_10 (h A B C ?_)) (fun ho => br_t rfl (rb_ys (by omega) (fun A' B' C' e' => nm_r (nI_1 k) (ih (k + 1) A' B' C' (by omega) ?_)))))
    · rw [e] at ho ⊢
      have := rb_pl_ov ho (n - k)
      rw [show k + (n - k) = n from by omega] at this
      exact this.symm
    · rw [e] at ho e'
      rw [e', rb_pl_s]
      exact (if_neg ho).symm
theorem rb_yp {post : SY → Prop} {n : Nat} (hn : n ≤ 40) (h : ∀ A' B' C', rb_at A' B' C' 0 = rb_pl m n → post (d, m, A', B', C', bf)) : wpY_play post (d, m, A, B, C, bf) (nI n) := by
  unfold wpY_play
  dsimp only
  have i0 : vp_in 0 2 := vp_in_nI (n := 0) (by decide) (by decide)
  have i1 : vp_in 1 2 := vp_in_nI (n := 1) (by decide) (by decide)
  refine nm_e (nm_e ⟨0 + 1 + 1 + 1, ?_⟩)
  refine br_f (by decide) ⟨i0, nm_e ⟨i0, nm_e (nm_r (e' := 1) (by decide) ?_)⟩⟩
  refine br_f (by decide) ⟨i1, nm_e ⟨i1, nm_e (nm_r (e' := 2) (by decide) ?_)⟩⟩
  refine br_t (by decide) ⟨n + 1, rb_yp44 hn h n 0 _ _ _ (by omega) ?_⟩
  rfl
theorem rb_ypc {post : Int32 → SY → Prop} {n : Nat} (hn : n ≤ 40) (h : ∀ A' B' C', rb_at A' B' C' 0 = rb_pl m n → post (rb_cd (rb_pl m n)) (d, m, A', B', C', bf)) : wpY_picture post (d, m, A, B, C, bf) (nI n) := by
  unfold wpY_picture
  refine rb_yp hn (fun A' B' C' e => ?_)
  have h' := h A' B' C' e
  rw [← e] at h'
  exact h'
theorem rb_ya92 {post : Int32 → SY → Prop} {D : Nat} (hD : D ≤ 40) (e : Nat → Int32) (hb : ∀ i, 1 ≤ i → i ≤ D → bf i = e i) (fin : ∀ A' B' C', post (nI (rb_cn e (fun i => rb_cd (rb_pl m i)) D)) (nI D, m, A', B', C', bf)) : ∀ r k (A B C : Nat → Int32), k + r = D → wY_arrive_92 post (r + 1) (nI (rb_cn e (fun i => rb_cd (rb_pl m i)) k)) (nI (k + 1)) (nI D) m A B C bf := by
  intro r
  induction r with
  | zero =>
    intro k A B C hk
    obtain rfl : k = D := by omega
    exact br_t (nI_lt (by omega) (by omega)) (fin A B C)
  | succ r ih =>
    intro k A B C hk
    rw [wY_arrive_92]
    dsimp only
    rw [nI_clamp (n := k + 1) (by omega)]
    refine br_f (nI_nlt (by omega) (by omega)) (rb_ypc (n := k + 1) (by omega) (fun A' B' C' _ => ⟨vp_in_nI (by omega) (by omega), br_c (fun h => nm_r (nI_1 _) ?_) (fun h => nm_r (nI_1 _) (nm_r (nI_1 _) ?_))⟩))
    · have := ih (k + 1) A' B' C' (by omega)
      rw [rb_cn_s, if_pos (h.trans (hb (k + 1) (by omega) (by omega)))] at this
      exact this
    · have := ih (k + 1) A' B' C' (by omega)
      rw [rb_cn_s, if_neg (fun z => h (z.trans (hb (k + 1) (by omega) (by omega)).symm))] at this
      exact this
theorem rb_ya44 {post : Int32 → SY → Prop} {D p f c : Nat} (hD : D ≤ 40) (hp : p < 2) (hf : f < 40) (fin : ∀ A' B' C' bf', post (nI (rb_cn (fun i => rb_cd (rb_pl m i)) (fun i => rb_cd (rb_pl (upd m (40 * p + f) (nI c + 1)) i)) D)) (nI D, upd m (40 * p + f) (nI c + 1), A', B', C', bf')) : ∀ r k (A B C bf : Nat → Int32), k + r = D → (∀ i, 1 ≤ i → i ≤ k → bf i = rb_cd (rb_pl m i)) → wY_arrive_44 post (nI p) (nI f) (nI c) (r + 1) (nI (k + 1)) (nI D) m A B C bf := by
  intro r
  induction r with
  | zero =>
    intro k A B C bf hk hb
    obtain rfl : k = D := by omega
    rw [wY_arrive_44]
    dsimp only
    rw [rb_j, nI_clamp (n := 40 * p + f) (by omega)]
    exact br_t (nI_lt (by omega) (by omega)) ⟨vp_in_nI (by omega) (by omega), nm_e ⟨k + 1, rb_ya92 hD _ hb (fun A' B' C' => fin A' B' C' bf) k 0 A B C (by omega)⟩⟩
  | succ r ih =>
    intro k A B C bf hk hb
    rw [wY_arrive_44]
    dsimp only
    rw [nI_clamp (n := k + 1) (by omega)]
    refine br_f (nI_nlt (by omega) (by omega)) (rb_ypc (n := k + 1) (by omega) (fun A' B' C' _ => ⟨vp_in_nI (by omega) (by omega), nm_e (nm_r (nI_1 _) (ih (k + 1) A' B' C' _ (by omega) ?_))⟩))
    intro i h1 h2
    by_cases e : i = k + 1
    · rw [e, pk_us]
    · rw [pk_un e]
      exact hb i h1 (by omega)
theorem rb_ya {post : Int32 → SY → Prop} {D p f c : Nat} (hD : D ≤ 40) (hp : p < 2) (hf : f < 40) (hc : c < 4) (hm : m (40 * p + f) ≤ 0) (fin : ∀ A' B' C' bf', post (nI (rb_cn (fun i => rb_cd (rb_pl m i)) (fun i => rb_cd (rb_pl (upd m (40 * p + f) (nI c + 1)) i)) D)) (nI D, upd m (40 * p + f) (nI c + 1), A', B', C', bf')) : wpY_arrive post (nI D, m, A, B, C, bf) (nI p) (nI f) (nI c) := by
  unfold wpY_arrive
  dsimp only
  refine rb_yply (fun _ => br_f rb_10 (rb_yfrm (fun _ => br_f rb_10 (br_f (nI_pos (by omega)) (br_f (nI_nlt (a := 3) (by omega) (by omega)) ?_))) (fun z => absurd z ?_))) (fun z => absurd ?_ z)
  · rw [rb_j, nI_clamp (n := 40 * p + f) (by omega)]
    exact ⟨vp_in_nI (by omega) (by omega), br_t hm ⟨D + 1, rb_ya44 hD hp hf fin D 0 A B C bf (by omega) (fun i h1 h2 => by omega)⟩⟩
  · intro w
    exact w.elim (nI_pos (by omega)) (nI_nlt (a := 39) (by omega) (by omega))
  · rcases (by omega : p = 0 ∨ p = 1) with rfl | rfl
    · exact Or.inl rfl
    · exact Or.inr rfl
/-! sure -/
theorem rb_ysr2 {post : Int32 → Prop} : ∀ r k, k + r = 40 → post (nI (rb_sr m r k)) → wY_sure_2 post d m A B C bf (r + 1) (nI k) := by
  intro r
  induction r with
  | zero =>
    intro k hk h
    obtain rfl : k = 40 := by omega
    exact br_t (by decide) h
  | succ r ih =>
    intro k hk h
    rw [wY_sure_2]
    dsimp only
    rw [show (40 : Int32) + nI k = nI (40 * 1 + k) from nI_add 40 k, nI_clamp (n := k) (by omega), nI_clamp (n := 40 * 1 + k) (by omega)]
    rw [rb_sr_s, show 40 * 0 + k = k from by omega] at h
    refine br_f (nI_ge (b := 40) (by omega) (by omega)) ⟨vp_in_nI (by omega) (by omega), br_c (fun h1 => ?_) (fun h1 => ⟨vp_in_nI (by omega) (by omega), br_c (fun h2 => ?_) (fun h2 => nm_r (nI_1 k) (ih (k + 1) (by omega) ?_))⟩)⟩
    · rw [if_pos (Or.inl h1)] at h; exact h
    · rw [if_pos (Or.inr h2)] at h; exact h
    · rw [if_neg (fun z => z.elim h1 h2)] at h; exact h
theorem rb_ysr {post : Int32 → Prop} (h : post (nI (rb_sr m 40 0))) : wpY_sure post (d, m, A, B, C, bf) := ⟨41, rb_ysr2 40 0 rfl h⟩
/-! missing -/
theorem rb_yms {post : Int32 → Prop} {p : Nat} (hp : p < 2) (hz : ∀ k, k < 40 → m (40 * p + k) = 0 ∨ ¬ m (40 * p + k) ≤ 0) : ∀ r k, k + r = 40 → (rb_gp m (40 * p) r k < 40 → post (nI (rb_gp m (40 * p) r k))) → (¬ rb_gp m (40 * p) r k < 40 → post (-2)) → wY_missing_2 post (nI p) d m A B C bf (r + 1) (nI k) := by
  have hpl : nI p = 0 ∨ nI p = 1 := by
    rcases (by omega : p = 0 ∨ p = 1) with rfl | rfl
    · exact Or.inl rfl
    · exact Or.inr rfl
  intro r
  induction r with
  | zero =>
    intro k hk h h2
    obtain rfl : k = 40 := by omega
    exact br_t (by decide) (rb_yply (fun _ => br_f rb_10 (h2 (Nat.lt_irrefl 40))) (fun z => absurd hpl z))
  | succ r ih =>
    intro k hk h h2
    rw [wY_missing_2]
    dsimp only
    rw [rb_j, nI_clamp (n := 40 * p + k) (by omega)]
    rw [rb_gp_s] at h h2
    refine br_f (nI_ge (b := 40) (by omega) (by omega)) (rb_yply (fun _ => br_f rb_10 ⟨vp_in_nI (by omega) (by omega), br_c (fun h1 => ?_) (fun h1 => nm_r (nI_1 k) ?_)⟩) (fun z => absurd hpl z))
    · rw [if_pos (by rw [h1]; exact Int32.le_refl 0)] at h
      exact h (by omega)
    · have n0 : ¬ m (40 * p + k) ≤ 0 := (hz k (by omega)).elim (fun z => absurd z h1) id
      rw [if_neg n0] at h h2
      exact ih (k + 1) (by omega) h h2
/-! overAfter -/
theorem rb_yoa {post : Int32 → SY → Prop} : ∀ r k (A B C : Nat → Int32), k + r = 41 → (∀ A' B' C', post (rb_oa m r k) (d, m, A', B', C', bf)) → wY_overAfter_2 post (r + 1) (nI k) d m A B C bf := by
  intro r
  induction r with
  | zero =>
    intro k A B C hk h
    obtain rfl : k = 41 := by omega
    exact br_t (by decide) (h A B C)
  | succ r ih =>
    intro k A B C hk h
    refine br_f (nI_nlt (b := k) (a := 40) (by omega) (by omega)) (rb_yp (by omega) (fun A' B' C' e => rb_yo (fun ho => br_f rb_10 ?_) (fun ho => br_t rfl (nm_r (nI_1 k) (ih (k + 1) A' B' C' (by omega) ?_)))))
    · rw [e] at ho
      have := h A' B' C'
      rw [rb_oa_s, if_pos ho] at this
      exact this
    · rw [e] at ho
      intro A2 B2 C2
      have := h A2 B2 C2
      rw [rb_oa_s, if_neg ho] at this
      exact this
end
end
section
section
variable {fp : Int32} {a mo P S Q m : Nat → Int32}
theorem rb_xply {post : Int32 → Prop} {x : Int32} (h1 : (x = 0 ∨ x = 1) → post 1) (h0 : ¬ (x = 0 ∨ x = 1) → post 0) : wpX_isPlayer post x :=
  br_c (fun z => h1 (Or.inl z)) (fun z => br_c (fun y => h1 (Or.inr y)) (fun y => h0 (fun w => w.elim z y)))
theorem rb_xfrm {post : Int32 → Prop} {x : Int32} (h1 : (¬ x < 0 ∧ ¬ 40 ≤ x) → post 1) (h0 : (x < 0 ∨ 40 ≤ x) → post 0) : wpX_isFrame post x :=
  br_c (fun z => h0 (Or.inl z)) (fun z => br_c (fun y => h0 (Or.inr y)) (fun y => h1 ⟨z, y⟩))
theorem rb_xmov {post : Int32 → Prop} {x : Int32} (h1 : (¬ x < 0 ∧ ¬ 3 < x) → post 1) (h0 : (x < 0 ∨ 3 < x) → post 0) : wpX_isMove post x :=
  br_c (fun z => h0 (Or.inl z)) (fun z => br_c (fun y => h0 (Or.inr y)) (fun y => h1 ⟨z, y⟩))
theorem rb_xfc {post : Int32 → Prop} {x : Int32} (h1 : (¬ x < 0 ∧ ¬ 40 < x) → post 1) (h0 : (x < 0 ∨ 40 < x) → post 0) : wpX_isFrameCount post x :=
  br_c (fun z => h0 (Or.inl z)) (fun z => br_c (fun y => h0 (Or.inr y)) (fun y => h1 ⟨z, y⟩))
/-! the picture's number -/
theorem rb_xfd {post : Int32 → Prop} {n : Nat} (hn : n ≤ 40) (h : post (rb_cd (rb_at P S Q (2 * n)))) : wpX_fieldCode post (fp, a, mo, P, S, Q) (nI n) := by
  unfold wpX_fieldCode
  dsimp only
  have i0 : vp_in (nI (2 * n)) 82 := vp_in_nI (by omega) (by omega)
  have i1 : vp_in (nI (2 * n + 1)) 82 := vp_in_nI (by omega) (by omega)
  refine nm_r (rb_i2 n) ?_
  rw [nI_1, nI_clamp (n := 2 * n) (by omega), nI_clamp (n := 2 * n + 1) (by omega)]
  exact ⟨i0, i1, i0, i1, i0, i1, h⟩
/-! out, over -/
theorem rb_xout {post : Int32 → Prop} {p n : Nat} (hp : p < 2) (hn : n ≤ 40) (h1 : S (2 * n + p) = 0 → post 1) (h0 : ¬ S (2 * n + p) = 0 → post 0) : wpX_isOut post (fp, a, mo, P, S, Q) (nI p) (nI n) := by
  unfold wpX_isOut
  dsimp only
  rw [rb_i, nI_clamp (n := 2 * n + p) (by omega)]
  exact ⟨vp_in_nI (by omega) (by omega), br_c h1 h0⟩
theorem rb_xo {post : Int32 → Prop} {n : Nat} (hn : n ≤ 40) (h1 : rb_ov (rb_at P S Q (2 * n)) → post 1) (h0 : ¬ rb_ov (rb_at P S Q (2 * n)) → post 0) : wpX_isOver post (fp, a, mo, P, S, Q) (nI n) := by
  unfold wpX_isOver
  dsimp only
  refine rb_xout (p := 0) (by decide) hn (fun z => br_f rb_10 (h1 (Or.inl z))) (fun z => br_t rfl ?_)
  exact rb_xout (p := 1) (by decide) hn (fun y => br_f rb_10 (h1 (Or.inr y))) (fun y => br_t rfl (h0 (fun w => w.elim z y)))
/-! the move used -/
theorem rb_xu28 {post : Int32 → Prop} {p : Nat} (hp : p < 2) (hM : rb_Mv a mo m) : ∀ j, j ≤ 40 → post (rb_ug m (40 * p) j) → wX_usedMove_28 post (nI p) fp a mo P S Q (j + 1) (nI j - 1) := by
  intro j
  induction j with
  | zero => intro _ h; exact br_t (by decide) h
  | succ j ih =>
    intro hj h
    rw [nI_pred, wX_usedMove_28]
    dsimp only
    rw [rb_i, nI_clamp (n := 2 * j + p) (by omega)]
    rw [rb_ug_s] at h
    refine br_f (nI_pos (by omega)) ⟨vp_in_nI (by omega) (by omega), ?_⟩
    rcases hM p j hp (by omega) with ⟨ha, hm⟩ | ⟨ha, hm, hmo⟩
    · rw [if_pos (by rw [hm]; exact Int32.le_refl 0)] at h
      exact br_t ha (nm_r (rb_m1 _) (ih (by omega) h))
    · rw [if_neg hm, ← hmo] at h
      refine br_f ha ⟨vp_in_nI (by omega) (by omega), nm_e (br_c (fun h2 => ?_) (fun h2 => ?_))⟩
      · rw [if_pos h2] at h
        exact h
      · rw [if_neg h2] at h
        exact h
theorem rb_xu {post : Int32 → Prop} {p k : Nat} (hp : p < 2) (hk : k < 40) (hM : rb_Mv a mo m) (h : post (rb_ud m (40 * p) k)) : wpX_usedMove post (fp, a, mo, P, S, Q) (nI p) (nI k) := by
  unfold wpX_usedMove
  dsimp only
  rw [rb_i, nI_clamp (n := 2 * k + p) (by omega)]
  unfold rb_ud at h
  refine ⟨vp_in_nI (by omega) (by omega), ?_⟩
  rcases hM p k hp hk with ⟨ha, hm⟩ | ⟨ha, hm, hmo⟩
  · rw [if_pos (by rw [hm]; exact Int32.le_refl 0)] at h
    exact br_t ha (nm_e ⟨k + 1, rb_xu28 hp hM k (by omega) h⟩)
  · rw [if_neg hm, ← hmo] at h
    exact br_f ha ⟨vp_in_nI (by omega) (by omega), h⟩
theorem rb_xt {post : Int32 → Prop} {p k : Nat} (hp : p < 2) (hk : k < 40) (hM : rb_Mv a mo m) (hq : 0 ≤ Q (2 * k + p)) (h : post (rb_tk (Q (2 * k + p)) (rb_ud m (40 * p) k))) : wpX_takenMove post (fp, a, mo, P, S, Q) (nI p) (nI k) := by
  unfold wpX_takenMove
  dsimp only
  rw [rb_i, nI_clamp (n := 2 * k + p) (by omega), rb_le0 hq]
  unfold rb_tk at h
  refine ⟨vp_in_nI (by omega) (by omega), br_c (fun h1 => ?_) (fun h1 => ?_)⟩
  · rw [if_pos h1] at h
    exact rb_xu hp hk hM h
  · rw [if_neg h1] at h
    exact h
/-! the steps of a frame: i the own place, o the other's -/
theorem rb_xc {post : SX → Prop} {p n : Nat} (i : Nat) (hi : 2 * n + p = i + 2) (hn : n ≤ 40) (hp : p < 2) (h : ∀ P' S' Q', P' (i + 2) = P i → S' (i + 2) = S i → Q' (i + 2) = Q i → (∀ j, j ≠ i + 2 → P' j = P j) → (∀ j, j ≠ i + 2 → S' j = S j) → (∀ j, j ≠ i + 2 → Q' j = Q j) → post (fp, a, mo, P', S', Q')) : wpX_carryOver post (fp, a, mo, P, S, Q) (nI p) (nI n) := by
  unfold wpX_carryOver
  dsimp only
  have i0 : vp_in (nI (i + 2)) 82 := vp_in_nI (by omega) (by omega)
  have i1 : vp_in (nI i) 82 := vp_in_nI (by omega) (by omega)
  refine nm_r ((rb_i n p).trans (congrArg nI hi)) ?_
  rw [show nI (i + 2) - 2 = nI i from pk_sub (a := i + 2) (b := 2) (by omega), nI_clamp (n := i) (by omega), nI_clamp (n := i + 2) (by omega)]
  exact ⟨i1, i0, nm_e ⟨i1, i0, nm_e ⟨i1, i0, nm_e (h _ _ _ pk_us pk_us pk_us (fun j hj => pk_un hj) (fun j hj => pk_un hj) (fun j hj => pk_un hj))⟩⟩⟩
theorem rb_xe {post : SX → Prop} {p n : Nat} (i : Nat) (hi : 2 * n + p = i) (hn : n ≤ 40) (hp : p < 2) (hq : 0 ≤ Q i) (h : ∀ Q', Q' i = rb_es (Q i) → (∀ j, j ≠ i → Q' j = Q j) → post (fp, a, mo, P, S, Q')) : wpX_easePause post (fp, a, mo, P, S, Q) (nI p) (nI n) := by
  unfold wpX_easePause
  dsimp only
  have i0 : vp_in (nI i) 82 := vp_in_nI (by omega) (by omega)
  refine nm_r ((rb_i n p).trans (congrArg nI hi)) ?_
  rw [nI_clamp (n := i) (by omega), rb_le0 hq]
  refine ⟨i0, br_c (fun h1 => h Q ?_ (fun _ _ => rfl)) (fun h1 => ⟨i0, i0, nm_e (h _ ?_ (fun j hj => pk_un hj))⟩)⟩
  · exact h1.trans (if_pos h1).symm
  · exact pk_us.trans (if_neg h1).symm
theorem rb_xw31 {post : SX → Prop} {p n : Nat} {g : Int32} (i o : Nat) (hi : 2 * n + p = i) (ho : 2 * n + 1 - p = o) (hn : n ≤ 40) (hp : p < 2) (h : ∀ P', P' i = rb_wg g (P i) (P o) → (∀ j, j ≠ i → P' j = P j) → post (fp, a, mo, P', S, Q)) : wX_walk_31 post (nI p) (nI n) g fp a mo P S Q := by
  unfold wX_walk_31 wX_walk_47 wX_walk_48
  rw [rb_i, rb_i1 hp, hi, ho, nI_clamp (n := i) (by omega), nI_clamp (n := o) (by omega)]
  have i0 : vp_in (nI i) 82 := vp_in_nI (by omega) (by omega)
  have i1 : vp_in (nI o) 82 := vp_in_nI (by omega) (by omega)
  refine br_c (fun h1 => br_t rfl (h P ?_ (fun _ _ => rfl))) (fun h1 => br_c (fun h2 => br_t rfl (h P ?_ (fun _ _ => rfl))) (fun h2 => br_f rb_10 ⟨i1, br_c (fun h3 => h P ?_ (fun _ _ => rfl)) (fun h3 => ⟨i0, nm_e (h _ ?_ (fun j hj => pk_un hj))⟩)⟩))
  · exact (if_neg (fun z => z.1 h1)).symm
  · exact (if_neg (fun z => z.2.1 h2)).symm
  · exact (if_neg (fun z => z.2.2 h3)).symm
  · exact pk_us.trans (if_pos ⟨h1, h2, h3⟩).symm
theorem rb_xw {post : SX → Prop} {p n : Nat} {t : Int32} (i o : Nat) (hi : 2 * n + p = i) (ho : 2 * n + 1 - p = o) (hn : n ≤ 40) (hp : p < 2) (h : ∀ P', P' i = rb_wk t (P i) (P o) → (∀ j, j ≠ i → P' j = P j) → post (fp, a, mo, P', S, Q)) : wpX_walk post (fp, a, mo, P, S, Q) (nI p) (nI n) t := by
  unfold wpX_walk
  dsimp only
  rw [rb_i, hi, nI_clamp (n := i) (by omega)]
  have i0 : vp_in (nI i) 82 := vp_in_nI (by omega) (by omega)
  unfold rb_wk rb_go at h
  refine ⟨i0, nm_e (br_c (fun h1 => nm_r (rb_m1 _) (rb_xw31 i o hi ho hn hp ?_)) (fun h1 => br_c (fun h2 => nm_e (rb_xw31 i o hi ho hn hp ?_)) (fun h2 => rb_xw31 i o hi ho hn hp ?_)))⟩
  · rw [if_pos h1] at h; exact h
  · rw [if_neg h1, if_pos h2] at h; exact h
  · rw [if_neg h1, if_neg h2] at h; exact h
theorem rb_xs64 {post : SX → Prop} {z : Int32} (o : Nat) (ho : o < 82) (h : ∀ S', S' o = rb_hf 3 z (S o) → (∀ j, j ≠ o → S' j = S j) → post (fp, a, mo, P, S', Q)) : wX_strike_64 post (nI o) z fp a mo P S Q := by
  unfold wX_strike_64
  rw [nI_clamp (n := o) (by omega)]
  have i0 : vp_in (nI o) 82 := vp_in_nI (by omega) (by omega)
  refine br_c (fun h1 => h S ?_ (fun _ _ => rfl)) (fun h1 => ⟨i0, br_c (fun h2 => h S ?_ (fun _ _ => rfl)) (fun h2 => ⟨i0, i0, nm_e (h _ ?_ (fun j hj => pk_un hj))⟩)⟩)
  · exact (if_neg (fun w => w.2.1 h1)).symm
  · exact (if_neg (fun w => w.2.2 h2)).symm
  · exact pk_us.trans (if_pos ⟨rfl, h1, h2⟩).symm
theorem rb_xs {post : SX → Prop} {p n : Nat} {t : Int32} (i o : Nat) (hi : 2 * n + p = i) (ho : 2 * n + 1 - p = o) (hn : n ≤ 40) (hp : p < 2) (h : ∀ S' Q', S' o = rb_ht t (P i) (P o) (S o) → Q' i = rb_ps t (Q i) → (∀ j, j ≠ o → S' j = S j) → (∀ j, j ≠ i → Q' j = Q j) → post (fp, a, mo, P, S', Q')) : wpX_strike post (fp, a, mo, P, S, Q) (nI p) (nI n) t := by
  unfold wpX_strike
  dsimp only
  have i0 : vp_in (nI i) 82 := vp_in_nI (by omega) (by omega)
  have i1 : vp_in (nI o) 82 := vp_in_nI (by omega) (by omega)
  refine br_c (fun h1 => nm_r ((rb_i n p).trans (congrArg nI hi)) (nm_r ((rb_i1 hp).trans (congrArg nI ho)) ?_)) (fun h1 => h S Q (if_neg (fun w => h1 w.1)).symm (if_neg h1).symm (fun _ _ => rfl) (fun _ _ => rfl))
  subst h1
  rw [nI_clamp (n := i) (by omega), nI_clamp (n := o) (by omega)]
  have fin : ∀ z : Int32, rb_hf 3 z (S o) = rb_ht 3 (P i) (P o) (S o) → wX_strike_64 post (nI o) z fp a mo P S (upd Q i 2) := by
    intro z hz
    exact rb_xs64 o (by omega) (fun S' e1 e2 => h S' _ (e1.trans hz) (pk_us.trans (if_pos rfl).symm) e2 (fun j hj => pk_un hj))
  refine ⟨i0, nm_e ⟨i0, i1, nm_e (br_c (fun h1 => ?_) (fun h1 => br_c (fun h2 => ?_) (fun h2 => ?_)))⟩⟩
  · exact fin 0 (rb_hf_0 (fun w => w.1 h1))
  · exact fin 0 (rb_hf_0 (fun w => w.2 h2))
  · exact fin 1 (rb_hf_1 ⟨h1, h2⟩)
end
end
section
section
variable {fp : Int32} {a mo P S Q m : Nat → Int32}
theorem rb_ht_sym {t x y s : Int32} : rb_ht t y x s = rb_ht t x y s := by
  unfold rb_ht
  by_cases c : t = 3 ∧ (¬ x - y < -1 ∧ ¬ 1 < x - y) ∧ ¬ s ≤ 0
  · rw [if_pos c, if_pos ⟨c.1, rb_near.mpr c.2.1, c.2.2⟩]
  · rw [if_neg c, if_neg (fun z => c ⟨z.1, rb_near.mp z.2.1, z.2.2⟩)]
theorem rb_xp {post : SX → Prop} {k : Nat} (hM : rb_Mv a mo m) (hk : k < 40) (hg : rb_Ok (rb_at P S Q (2 * k))) (h : ∀ P' S' Q', rb_at P' S' Q' (2 * k + 2) = rb_nx (rb_ud m (40 * 0) k) (rb_ud m (40 * 1) k) (rb_at P S Q (2 * k)) → (∀ j, j ≠ 2 * k + 2 → j ≠ 2 * k + 3 → P' j = P j) → (∀ j, j ≠ 2 * k + 2 → j ≠ 2 * k + 3 → S' j = S j) → (∀ j, j ≠ 2 * k + 2 → j ≠ 2 * k + 3 → Q' j = Q j) → post (fp, a, mo, P', S', Q')) : wpX_playFrame post (fp, a, mo, P, S, Q) (nI k) := by
  unfold wpX_playFrame
  dsimp only
  refine nm_r (nI_1 k) ?_
  refine rb_xc (p := 0) (n := k + 1) (2 * k) (by omega) (by omega) (by decide) (fun P1 S1 Q1 p1 s1 q1 op1 os1 oq1 => ?_)
  dsimp only
  refine rb_xc (p := 1) (n := k + 1) (2 * k + 1) (by omega) (by omega) (by decide) (fun P2 S2 Q2 p2 s2 q2 op2 os2 oq2 => ?_)
  dsimp only
  have P0 : P2 (2 * k + 2) = P (2 * k) := (op2 _ (by omega)).trans p1
  have S0 : S2 (2 * k + 2) = S (2 * k) := (os2 _ (by omega)).trans s1
  have Q0 : Q2 (2 * k + 2) = Q (2 * k) := (oq2 _ (by omega)).trans q1
  have PP : P2 (2 * k + 3) = P (2 * k + 1) := p2.trans (op1 _ (by omega))
  have SS : S2 (2 * k + 3) = S (2 * k + 1) := s2.trans (os1 _ (by omega))
  have QQ : Q2 (2 * k + 3) = Q (2 * k + 1) := q2.trans (oq1 _ (by omega))
  have oP : ∀ j, j ≠ 2 * k + 2 → j ≠ 2 * k + 3 → P2 j = P j := fun j a b => (op2 j b).trans (op1 j a)
  have oS : ∀ j, j ≠ 2 * k + 2 → j ≠ 2 * k + 3 → S2 j = S j := fun j a b => (os2 j b).trans (os1 j a)
  have oQ : ∀ j, j ≠ 2 * k + 2 → j ≠ 2 * k + 3 → Q2 j = Q j := fun j a b => (oq2 j b).trans (oq1 j a)
  have at2 : rb_at P2 S2 Q2 (2 * k) = rb_at P S Q (2 * k) := by
    unfold rb_at
    rw [oP (2 * k) (by omega) (by omega), oP (2 * k + 1) (by omega) (by omega), oS (2 * k) (by omega) (by omega), oS (2 * k + 1) (by omega) (by omega), oQ (2 * k) (by omega) (by omega), oQ (2 * k + 1) (by omega) (by omega)]
  have hg0 : 0 ≤ Q (2 * k) := hg.2.1
  have hg1 : 0 ≤ Q (2 * k + 1) := hg.2.2
  refine rb_xo (n := k) (by omega) (fun ho => br_f rb_10 (h P2 S2 Q2 ?_ oP oS oQ)) (fun ho => br_t rfl ?_)
  · rw [at2] at ho
    have e : rb_nx (rb_ud m (40 * 0) k) (rb_ud m (40 * 1) k) (rb_at P S Q (2 * k)) = rb_at P S Q (2 * k) := if_pos ho
    rw [e]
    show (P2 (2 * k + 2), P2 (2 * k + 3), S2 (2 * k + 2), S2 (2 * k + 3), Q2 (2 * k + 2), Q2 (2 * k + 3)) = _
    rw [P0, S0, Q0, PP, SS, QQ]
    rfl
  · rw [at2] at ho
    have e : rb_nx (rb_ud m (40 * 0) k) (rb_ud m (40 * 1) k) (rb_at P S Q (2 * k)) = rb_st (rb_ud m (40 * 0) k) (rb_ud m (40 * 1) k) (rb_at P S Q (2 * k)) := if_neg ho
    have r0 : Q2 (2 * k + 0) = Q (2 * k) := oQ (2 * k) (by omega) (by omega)
    have r1 : Q2 (2 * k + 1) = Q (2 * k + 1) := oQ (2 * k + 1) (by omega) (by omega)
    refine rb_xt (p := 0) (k := k) (m := m) (by decide) hk hM (by rw [r0]; exact hg0) ?_
    refine rb_xt (p := 1) (k := k) (m := m) (by decide) hk hM (by rw [r1]; exact hg1) ?_
    rw [r0, r1]
    refine rb_xe (p := 0) (n := k + 1) (2 * k + 2) (by omega) (by omega) (by decide) (by rw [Q0]; exact hg0) (fun Q3 e3 o3 => ?_)
    dsimp only
    have Q31 : Q3 (2 * k + 3) = Q (2 * k + 1) := (o3 _ (by omega)).trans QQ
    refine rb_xe (p := 1) (n := k + 1) (2 * k + 3) (by omega) (by omega) (by decide) (by rw [Q31]; exact hg1) (fun Q4 e4 o4 => ?_)
    dsimp only
    refine rb_xw (p := 0) (n := k + 1) (2 * k + 2) (2 * k + 3) (by omega) (by omega) (by omega) (by decide) (fun P3 w3 ow3 => ?_)
    dsimp only
    refine rb_xw (p := 1) (n := k + 1) (2 * k + 3) (2 * k + 2) (by omega) (by omega) (by omega) (by decide) (fun P4 w4 ow4 => ?_)
    dsimp only
    refine rb_xs (p := 0) (n := k + 1) (2 * k + 2) (2 * k + 3) (by omega) (by omega) (by omega) (by decide) (fun S3 Q5 s3 q5 os3 oq5 => ?_)
    dsimp only
    refine rb_xs (p := 1) (n := k + 1) (2 * k + 3) (2 * k + 2) (by omega) (by omega) (by omega) (by decide) (fun S4 Q6 s4 q6 os4 oq6 => ?_)
    dsimp only
    refine h P4 S4 Q6 ?_ (fun j a b => (ow4 j b).trans ((ow3 j a).trans (oP j a b))) (fun j a b => (os4 j a).trans ((os3 j b).trans (oS j a b))) (fun j a b => (oq6 j b).trans ((oq5 j a).trans ((o4 j b).trans ((o3 j a).trans (oQ j a b)))))
    rw [e]
    rw [P0, PP] at w3
    rw [ow3 (2 * k + 3) (by omega), PP, w3] at w4
    have w30 : P4 (2 * k + 2) = _ := (ow4 (2 * k + 2) (by omega)).trans w3
    have s30 : S3 (2 * k + 2) = S (2 * k) := (os3 _ (by omega)).trans S0
    have s40 : S4 (2 * k + 3) = S3 (2 * k + 3) := os4 _ (by omega)
    rw [SS] at s3
    rw [s3] at s40
    rw [s30, rb_ht_sym] at s4
    have q40 : Q4 (2 * k + 2) = rb_es (Q (2 * k)) := (o4 _ (by omega)).trans (e3.trans (congrArg rb_es Q0))
    have q41 : Q4 (2 * k + 3) = rb_es (Q (2 * k + 1)) := e4.trans (congrArg rb_es Q31)
    have q50 : Q6 (2 * k + 2) = Q5 (2 * k + 2) := oq6 _ (by omega)
    rw [q5, q40] at q50
    rw [oq5 (2 * k + 3) (by omega), q41] at q6
    show (P4 (2 * k + 2), P4 (2 * k + 3), S4 (2 * k + 2), S4 (2 * k + 3), Q6 (2 * k + 2), Q6 (2 * k + 3)) = _
    rw [s4, s40, q50, q6, w30, w4]
    rfl
/-! the frames anew -/
theorem rb_xr4 {post : Int32 → SX → Prop} {d : Nat} (hd : d ≤ 40) (hM : rb_Mv a mo m) (e : Nat → Int32) (fin : ∀ P' S' Q', (∀ i, i ≤ 40 → rb_pl m i = rb_at P' S' Q' (2 * i)) → post (nI (rb_cn e (fun i => rb_cd (rb_pl m i)) d)) (nI d, a, mo, P', S', Q')) : ∀ r k (P S Q : Nat → Int32), k + r = 40 → (∀ i, i ≤ k → rb_pl m i = rb_at P S Q (2 * i)) → (∀ i, k < i → i ≤ 40 → rb_cd (rb_at P S Q (2 * i)) = e i) → wX_replayFrom_4 post (r + 1) (nI (rb_cx e (fun i => rb_cd (rb_pl m i)) d k)) (nI k) (nI d) a mo P S Q := by
  intro r
  induction r with
  | zero =>
    intro k P S Q hk h1 h2
    obtain rfl : k = 40 := by omega
    rw [rb_cx_end hd]
    exact br_t (by decide) (fin P S Q h1)
  | succ r ih =>
    intro k P S Q hk h1 h2
    rw [wX_replayFrom_4]
    dsimp only
    rw [nI_1 k]
    refine br_f (nI_ge (b := 40) (by omega) (by omega)) (rb_xfd (n := k + 1) (by omega) (rb_xp (m := m) hM (by omega) ?_ (fun P' S' Q' e1 oP oS oQ => rb_xfd (n := k + 1) (by omega) ?_)))
    · rw [← h1 k (by omega)]
      exact rb_Ok_pl m k
    · have e2 : rb_pl m (k + 1) = rb_at P' S' Q' (2 * (k + 1)) := by
        rw [rb_pl_s, h1 k (by omega)]
        exact e1.symm
      have keep : ∀ i, i ≠ k + 1 → rb_at P' S' Q' (2 * i) = rb_at P S Q (2 * i) := by
        intro i hi
        unfold rb_at
        rw [oP (2 * i) (by omega) (by omega), oP (2 * i + 1) (by omega) (by omega), oS (2 * i) (by omega) (by omega), oS (2 * i + 1) (by omega) (by omega), oQ (2 * i) (by omega) (by omega), oQ (2 * i + 1) (by omega) (by omega)]
      have ih' := ih (k + 1) P' S' Q' (by omega) (fun i hi => by
        by_cases z : i = k + 1
        · rw [z]; exact e2
        · rw [keep i z]; exact h1 i (by omega)) (fun i hi hi2 => by
        rw [keep i (by omega)]; exact h2 i (by omega) hi2)
      have hb := h2 (k + 1) (by omega) (by omega)
      rw [← e2, hb]
      refine pk_le d k (fun z => nm_e ?_) (fun z => br_c (fun w => nm_e ?_) (fun w => nm_r (nI_1 _) (nm_e ?_)))
      · rw [rb_cx_d z] at ih'; exact ih'
      · rw [rb_cx_e w] at ih'; exact ih'
      · rw [rb_cx_t z w] at ih'; exact ih'
theorem rb_xr {post : Int32 → SX → Prop} {d k : Nat} (hd : d ≤ 40) (hk : k ≤ 40) (hM : rb_Mv a mo m) (e : Nat → Int32) (h1 : ∀ i, i ≤ k → rb_pl m i = rb_at P S Q (2 * i)) (h2 : ∀ i, k < i → i ≤ 40 → rb_cd (rb_at P S Q (2 * i)) = e i) (h0 : rb_cx e (fun i => rb_cd (rb_pl m i)) d k = 0) (fin : ∀ P' S' Q', (∀ i, i ≤ 40 → rb_pl m i = rb_at P' S' Q' (2 * i)) → post (nI (rb_cn e (fun i => rb_cd (rb_pl m i)) d)) (nI d, a, mo, P', S', Q')) : wpX_replayFrom post (nI d, a, mo, P, S, Q) (nI k) := by
  have := rb_xr4 hd hM e fin (40 - k) k P S Q (by omega) h1 h2
  rw [h0, nI_0] at this
  exact ⟨_, this⟩
/-! the first gap, the fight's end -/
theorem rb_xg2 {post : Int32 → Prop} {p : Nat} (hp : p < 2) (hM : rb_Mv a mo m) : ∀ r k, k + r = 40 → post (nI (rb_gp m (40 * p) r k)) → wX_firstGap_2 post (nI p) fp a mo P S Q (r + 1) (nI k) := by
  intro r
  induction r with
  | zero =>
    intro k hk h
    obtain rfl : k = 40 := by omega
    exact br_t (by decide) h
  | succ r ih =>
    intro k hk h
    rw [wX_firstGap_2]
    dsimp only
    rw [rb_i, nI_clamp (n := 2 * k + p) (by omega)]
    rw [rb_gp_s] at h
    refine br_f (nI_ge (b := 40) (by omega) (by omega)) ⟨vp_in_nI (by omega) (by omega), ?_⟩
    rcases hM p k hp (by omega) with ⟨ha, hm⟩ | ⟨ha, hm, hmo⟩
    · rw [if_pos (by rw [hm]; exact Int32.le_refl 0)] at h
      exact br_t ha h
    · rw [if_neg hm] at h
      exact br_f ha (nm_r (nI_1 k) (ih (k + 1) (by omega) h))
theorem rb_xg {post : Int32 → Prop} {p : Nat} (hp : p < 2) (hM : rb_Mv a mo m) (h : post (nI (rb_gp m (40 * p) 40 0))) : wpX_firstGap post (fp, a, mo, P, S, Q) (nI p) := ⟨41, rb_xg2 hp hM 40 0 rfl h⟩
theorem rb_xsr {post : Int32 → Prop} (hM : rb_Mv a mo m) (h : post (nI (rb_sr m 40 0))) : wpX_sure post (fp, a, mo, P, S, Q) := by
  have g0 := rb_gp_le m (40 * 0) 40 0
  have g1 := rb_gp_le m (40 * 1) 40 0
  rw [rb_sr_eq] at h
  unfold wpX_sure
  dsimp only
  refine rb_xg (p := 0) (by decide) hM (rb_xg (p := 1) (by decide) hM ?_)
  refine pk_le (rb_gp m (40 * 1) 40 0) (rb_gp m (40 * 0) 40 0) (fun z => ?_) (fun z => ?_)
  · rw [if_neg (by omega)] at h; exact h
  · rw [if_pos z] at h; exact h
theorem rb_xoa {post : Int32 → Prop} (hF : ∀ n, n ≤ 40 → rb_pl m n = rb_at P S Q (2 * n)) : ∀ r k, k + r = 41 → post (rb_oa m r k) → wX_overAfter_2 post fp a mo P S Q (r + 1) (nI k) := by
  intro r
  induction r with
  | zero =>
    intro k hk h
    obtain rfl : k = 41 := by omega
    exact br_t (by decide) h
  | succ r ih =>
    intro k hk h
    rw [rb_oa_s] at h
    refine br_f (nI_nlt (b := k) (a := 40) (by omega) (by omega)) (rb_xo (by omega) (fun ho => br_f rb_10 ?_) (fun ho => br_t rfl (nm_r (nI_1 k) (ih (k + 1) (by omega) ?_))))
    · rw [← hF k (by omega)] at ho
      rw [if_pos ho] at h
      exact h
    · rw [← hF k (by omega)] at ho
      rw [if_neg ho] at h
      exact h
end
end
section
section
/-- both played d frames; the moves are the same; X's arrays hold what is shown after each number of frames; what Y's places, points, pauses and pictures hold doesn't matter -/
def i_Rel (k : Nat) (u : SX) (v : SY) : Prop := ∃ (d : Nat) (a mo P S Q m A B C bf : Nat → Int32), u = (nI d, a, mo, P, S, Q) ∧ v = (nI d, m, A, B, C, bf) ∧ d ≤ 40 ∧ rb_Mv a mo m ∧ ∀ n, n ≤ 40 → rb_pl m n = rb_at P S Q (2 * n)
theorem rb_R {k d : Nat} {a mo P S Q m A B C bf : Nat → Int32} (hd : d ≤ 40) (hM : rb_Mv a mo m) (hF : ∀ n, n ≤ 40 → rb_pl m n = rb_at P S Q (2 * n)) : i_Rel k (nI d, a, mo, P, S, Q) (nI d, m, A, B, C, bf) :=
  ⟨d, a, mo, P, S, Q, m, A, B, C, bf, rfl, rfl, hd, hM, hF⟩
theorem i_up {k : Nat} {u : SX} {v : SY} (h : i_Rel k u v) : i_Rel (k + 4) u v := h
theorem i_vc0 : wpX_init (fun u => wpY_init (fun v => i_Rel 0 u v)) := by
  unfold wpX_init
  refine nm_e (nm_e (nm_e (nm_e ?_)))
  refine rb_xr (d := 0) (k := 0) (m := fun _ => 0) (by omega) (by omega) rb_Mv_0 _ ?_ (fun i _ _ => rfl) rfl (fun P' S' Q' hF => ?_)
  · intro i hi
    obtain rfl : i = 0 := by omega
    rfl
  · exact rb_R (k := 0) (d := 0) (by omega) rb_Mv_0 hF
theorem rb_pl01 {p : Nat} (hp : p < 2) : nI p = 0 ∨ nI p = 1 := by
  rcases (by omega : p = 0 ∨ p = 1) with rfl | rfl
  · exact Or.inl rfl
  · exact Or.inr rfl
theorem rb_plx {x : Int32} (h : x = 0 ∨ x = 1) : ∃ p, p < 2 ∧ x = nI p := by
  rcases h with rfl | rfl
  · exact ⟨0, by decide, rfl⟩
  · exact ⟨1, by decide, rfl⟩
theorem rb_lt {x : Int32} {a b : Int32} (hab : a < b) (h : b ≤ x) : a < x := Int32.lt_of_lt_of_le hab h
theorem rb_frx (x : Int32) : ((x < 0 ∨ 40 ≤ x) ∧ (x < 0 ∨ 39 < x)) ∨ ∃ f, f < 40 ∧ x = nI f := by
  rcases pk_ix x (n := 40) (by decide) with h | h | h
  · exact Or.inl ⟨Or.inl h, Or.inl h⟩
  · exact Or.inl ⟨Or.inr h, Or.inr (rb_lt (b := 40) (by decide) h)⟩
  · exact Or.inr h
theorem rb_mvx (x : Int32) : (x < 0 ∨ 3 < x) ∨ ∃ f, f < 4 ∧ x = nI f := by
  rcases pk_ix x (n := 4) (by decide) with h | h | h
  · exact Or.inl (Or.inl h)
  · exact Or.inl (Or.inr (rb_lt (b := 4) (by decide) h))
  · exact Or.inr h
theorem rb_nx' (x : Int32) : (x < 0 ∨ 40 < x) ∨ ∃ f, f ≤ 40 ∧ x = nI f := by
  rcases pk_ix x (n := 41) (by decide) with h | h | ⟨j, hj, h⟩
  · exact Or.inl (Or.inl h)
  · exact Or.inl (Or.inr (rb_lt (b := 41) (by decide) h))
  · exact Or.inr ⟨j, by omega, h⟩
theorem rb_fr40 {f : Nat} (h : f < 40) : ¬ (nI f < 0 ∨ 40 ≤ nI f) := fun w => w.elim (nI_pos (by omega)) (nI_ge (b := 40) (by omega) (by omega))
theorem rb_fr39 {f : Nat} (h : f < 40) : ¬ (nI f < 0 ∨ 39 < nI f) := fun w => w.elim (nI_pos (by omega)) (nI_nlt (a := 39) (by omega) (by omega))
theorem rb_mv3 {f : Nat} (h : f < 4) : ¬ (nI f < 0 ∨ 3 < nI f) := fun w => w.elim (nI_pos (by omega)) (nI_nlt (a := 3) (by omega) (by omega))
theorem rb_fc40 {f : Nat} (h : f ≤ 40) : ¬ (nI f < 0 ∨ 40 < nI f) := fun w => w.elim (nI_pos (by omega)) (nI_nlt (a := 40) (by omega) (by omega))
theorem rb_vb1 : vp_nar .boolean 1 = 1 := by decide
theorem rb_at_p {A B C P S Q : Nat → Int32} {i p : Nat} (h : rb_at A B C 0 = rb_at P S Q i) (hp : p < 2) : A p = P (i + p) ∧ B p = S (i + p) ∧ C p = Q (i + p) := by
  have h0 : A 0 = P i := congrArg (fun g : rb_F => g.1) h
  have h1 : A 1 = P (i + 1) := congrArg (fun g : rb_F => g.2.1) h
  have h2 : B 0 = S i := congrArg (fun g : rb_F => g.2.2.1) h
  have h3 : B 1 = S (i + 1) := congrArg (fun g : rb_F => g.2.2.2.1) h
  have h4 : C 0 = Q i := congrArg (fun g : rb_F => g.2.2.2.2.1) h
  have h5 : C 1 = Q (i + 1) := congrArg (fun g : rb_F => g.2.2.2.2.2) h
  rcases (by omega : p = 0 ∨ p = 1) with rfl | rfl
  · exact ⟨h0, h2, h4⟩
  · exact ⟨h1, h3, h5⟩
theorem i_vc_arrive {k : Nat} {u : SX} {v : SY} (I : i_Rel k u v) (hk : k + 4 ≤ 2048) (v1 : Int32) (v2 : Int32) (v3 : Int32) : wpX_arrive (fun r u' => wpY_arrive (fun r' v' => r' = r ∧ i_Rel (k + 4) u' v') v v1 v2 v3) u v1 v2 v3 := by
  obtain ⟨d, a, mo, P, S, Q, m, A, B, C, bf, rfl, rfl, hd, hM, hF⟩ := I
  have R : i_Rel (k + 4) (nI d, a, mo, P, S, Q) (nI d, m, A, B, C, bf) := rb_R hd hM hF
  unfold wpX_arrive
  dsimp only
  by_cases hp : v1 = 0 ∨ v1 = 1
  · obtain ⟨p, hp2, rfl⟩ := rb_plx hp
    rcases rb_frx v2 with ⟨f1, f2⟩ | ⟨f, hf, rfl⟩
    · refine rb_xply (fun _ => br_f rb_10 (rb_xfrm (fun z => absurd f1 (fun w => w.elim z.1 z.2)) (fun _ => br_t rfl ?_))) (fun z => absurd hp z)
      unfold wpY_arrive
      dsimp only
      exact rb_yply (fun _ => br_f rb_10 (rb_yfrm (fun z => absurd f2 (fun w => w.elim z.1 z.2)) (fun _ => br_t rfl ⟨rfl, R⟩))) (fun z => absurd hp z)
    · rcases rb_mvx v3 with f3 | ⟨c, hc, rfl⟩
      · refine rb_xply (fun _ => br_f rb_10 (rb_xfrm (fun _ => br_f rb_10 (rb_xmov (fun z => absurd f3 (fun w => w.elim z.1 z.2)) (fun _ => br_t rfl ?_))) (fun z => absurd z (rb_fr40 hf)))) (fun z => absurd hp z)
        unfold wpY_arrive
        dsimp only
        refine rb_yply (fun _ => br_f rb_10 (rb_yfrm (fun _ => br_f rb_10 (br_c (fun _ => ⟨rfl, R⟩) (fun h1 => br_t ?_ ⟨rfl, R⟩))) (fun z => absurd z (rb_fr39 hf)))) (fun z => absurd hp z)
        exact f3.elim (fun w => absurd w h1) id
      · refine rb_xply (fun _ => br_f rb_10 (rb_xfrm (fun _ => br_f rb_10 (rb_xmov (fun _ => br_f rb_10 (nm_r (rb_i f p) ?_)) (fun z => absurd z (rb_mv3 hc)))) (fun z => absurd z (rb_fr40 hf)))) (fun z => absurd hp z)
        rw [nI_clamp (n := 2 * f + p) (by omega), rb_vb1]
        have i0 : vp_in (nI (2 * f + p)) 80 := vp_in_nI (by omega) (by omega)
        rcases hM p f hp2 hf with ⟨ha, hm⟩ | ⟨ha, hm, hmo⟩
        · refine ⟨i0, br_t ha ⟨i0, nm_e ⟨i0, nm_e ?_⟩⟩⟩
          refine rb_xr (m := upd m (40 * p + f) (nI c + 1)) hd (by omega) (rb_Mv_put hM hp2 hf hc) (fun i => rb_cd (rb_pl m i)) ?_ ?_ ?_ (fun P' S' Q' hF' => ?_)
          · intro i hi
            rw [rb_pl_put hp2 hf hi]
            exact hF i (by omega)
          · intro i _ hi
            exact congrArg rb_cd (hF i hi).symm
          · exact rb_cx_0 (fun i hi => congrArg rb_cd (rb_pl_put hp2 hf hi))
          · exact rb_ya hd hp2 hf hc (by rw [hm]; exact Int32.le_refl 0) (fun A' B' C' bf' => ⟨rfl, rb_R hd (rb_Mv_put hM hp2 hf hc) hF'⟩)
        · refine ⟨i0, br_f ha ?_⟩
          unfold wpY_arrive
          dsimp only
          rw [rb_j, nI_clamp (n := 40 * p + f) (by omega)]
          exact rb_yply (fun _ => br_f rb_10 (rb_yfrm (fun _ => br_f rb_10 (br_f (fun w => rb_mv3 hc (Or.inl w)) (br_f (fun w => rb_mv3 hc (Or.inr w)) ⟨vp_in_nI (by omega) (by omega), br_f hm ⟨rfl, R⟩⟩))) (fun z => absurd z (rb_fr39 hf)))) (fun z => absurd hp z)
  · refine rb_xply (fun z => absurd z hp) (fun _ => br_t rfl ?_)
    unfold wpY_arrive
    dsimp only
    exact rb_yply (fun z => absurd z hp) (fun _ => br_t rfl ⟨rfl, R⟩)
theorem i_vc_tick {k : Nat} {u : SX} {v : SY} (I : i_Rel k u v) (hk : k + 4 ≤ 2048) : wpX_tick (fun r u' => wpY_tick (fun r' v' => r' = r ∧ i_Rel (k + 4) u' v') v) u := by
  obtain ⟨d, a, mo, P, S, Q, m, A, B, C, bf, rfl, rfl, hd, hM, hF⟩ := I
  refine pk_lt d 40 (fun h => nm_r (nI_1 d) (br_t (nI_lt (b := 40) h (by omega)) (nm_r (nI_1 d) ⟨rfl, rb_R (by omega) hM hF⟩))) (fun h => br_f (nI_nlt (b := 40) h (by omega)) ⟨rfl, rb_R hd hM hF⟩)
theorem i_vc_played {k : Nat} {u : SX} {v : SY} (I : i_Rel k u v) (hk : k + 4 ≤ 2048) : wpX_played (fun r => wpY_played (fun r' => r' = r ∧ i_Rel (k + 4) u v) v) u := by
  obtain ⟨d, a, mo, P, S, Q, m, A, B, C, bf, rfl, rfl, hd, hM, hF⟩ := I
  exact ⟨rfl, rb_R hd hM hF⟩
theorem i_vc_sure {k : Nat} {u : SX} {v : SY} (I : i_Rel k u v) (hk : k + 4 ≤ 2048) : wpX_sure (fun r => wpY_sure (fun r' => r' = r ∧ i_Rel (k + 4) u v) v) u := by
  obtain ⟨d, a, mo, P, S, Q, m, A, B, C, bf, rfl, rfl, hd, hM, hF⟩ := I
  exact rb_xsr hM (rb_ysr ⟨rfl, rb_R hd hM hF⟩)
theorem i_vc_position {k : Nat} {u : SX} {v : SY} (I : i_Rel k u v) (hk : k + 4 ≤ 2048) (v1 : Int32) : wpX_position (fun r => wpY_position (fun r' v' => r' = r ∧ i_Rel (k + 4) u v') v v1) u v1 := by
  obtain ⟨d, a, mo, P, S, Q, m, A, B, C, bf, rfl, rfl, hd, hM, hF⟩ := I
  unfold wpX_position wpY_position
  dsimp only
  by_cases hp : v1 = 0 ∨ v1 = 1
  · obtain ⟨p, hp2, rfl⟩ := rb_plx hp
    rw [rb_i, nI_clamp (n := 2 * d + p) (by omega), nI_clamp (n := p) (by omega)]
    refine rb_xply (fun _ => br_f rb_10 ⟨vp_in_nI (by omega) (by omega), rb_yp hd (fun A' B' C' e => rb_yply (fun _ => br_f rb_10 ⟨vp_in_nI hp2 (by omega), ?_, rb_R hd hM hF⟩) (fun z => absurd hp z))⟩) (fun z => absurd hp z)
    exact (rb_at_p (e.trans (hF d hd)) hp2).1
  · exact rb_xply (fun z => absurd z hp) (fun _ => br_t rfl (rb_yp hd (fun A' B' C' e => rb_yply (fun z => absurd z hp) (fun _ => br_t rfl ⟨rfl, rb_R hd hM hF⟩))))
theorem i_vc_strength {k : Nat} {u : SX} {v : SY} (I : i_Rel k u v) (hk : k + 4 ≤ 2048) (v1 : Int32) : wpX_strength (fun r => wpY_strength (fun r' v' => r' = r ∧ i_Rel (k + 4) u v') v v1) u v1 := by
  obtain ⟨d, a, mo, P, S, Q, m, A, B, C, bf, rfl, rfl, hd, hM, hF⟩ := I
  unfold wpX_strength wpY_strength
  dsimp only
  by_cases hp : v1 = 0 ∨ v1 = 1
  · obtain ⟨p, hp2, rfl⟩ := rb_plx hp
    rw [rb_i, nI_clamp (n := 2 * d + p) (by omega), nI_clamp (n := p) (by omega)]
    refine rb_xply (fun _ => br_f rb_10 ⟨vp_in_nI (by omega) (by omega), rb_yp hd (fun A' B' C' e => rb_yply (fun _ => br_f rb_10 ⟨vp_in_nI hp2 (by omega), ?_, rb_R hd hM hF⟩) (fun z => absurd hp z))⟩) (fun z => absurd hp z)
    exact (rb_at_p (e.trans (hF d hd)) hp2).2.1
  · exact rb_xply (fun z => absurd z hp) (fun _ => br_t rfl (rb_yp hd (fun A' B' C' e => rb_yply (fun z => absurd z hp) (fun _ => br_t rfl ⟨rfl, rb_R hd hM hF⟩))))
theorem i_vc_pause {k : Nat} {u : SX} {v : SY} (I : i_Rel k u v) (hk : k + 4 ≤ 2048) (v1 : Int32) : wpX_pause (fun r => wpY_pause (fun r' v' => r' = r ∧ i_Rel (k + 4) u v') v v1) u v1 := by
  obtain ⟨d, a, mo, P, S, Q, m, A, B, C, bf, rfl, rfl, hd, hM, hF⟩ := I
  unfold wpX_pause wpY_pause
  dsimp only
  by_cases hp : v1 = 0 ∨ v1 = 1
  · obtain ⟨p, hp2, rfl⟩ := rb_plx hp
    rw [rb_i, nI_clamp (n := 2 * d + p) (by omega), nI_clamp (n := p) (by omega)]
    refine rb_xply (fun _ => br_f rb_10 ⟨vp_in_nI (by omega) (by omega), rb_yp hd (fun A' B' C' e => rb_yply (fun _ => br_f rb_10 ⟨vp_in_nI hp2 (by omega), ?_, rb_R hd hM hF⟩) (fun z => absurd hp z))⟩) (fun z => absurd hp z)
    exact (rb_at_p (e.trans (hF d hd)) hp2).2.2
  · exact rb_xply (fun z => absurd z hp) (fun _ => br_t rfl (rb_yp hd (fun A' B' C' e => rb_yply (fun z => absurd z hp) (fun _ => br_t rfl ⟨rfl, rb_R hd hM hF⟩))))
theorem i_vc_shown {k : Nat} {u : SX} {v : SY} (I : i_Rel k u v) (hk : k + 4 ≤ 2048) (v1 : Int32) : wpX_shown (fun r => wpY_shown (fun r' v' => r' = r ∧ i_Rel (k + 4) u v') v v1) u v1 := by
  obtain ⟨d, a, mo, P, S, Q, m, A, B, C, bf, rfl, rfl, hd, hM, hF⟩ := I
  unfold wpX_shown wpY_shown
  dsimp only
  rcases rb_nx' v1 with hn | ⟨n, hn, rfl⟩
  · refine rb_xfc (fun z => absurd hn (fun w => w.elim z.1 z.2)) (fun _ => br_t rfl (br_c (fun _ => ⟨rfl, rb_R hd hM hF⟩) (fun h1 => br_f (fun h2 => ?_) ⟨rfl, rb_R hd hM hF⟩)))
    exact hn.elim h1 (fun w => absurd h2 (Int32.not_le.mpr w))
  · refine rb_xfc (fun _ => br_f rb_10 (rb_xfd hn (br_f (nI_pos (by omega)) (br_t (nI_le (b := 40) hn (by omega)) (rb_ypc hn (fun A' B' C' e => ⟨?_, rb_R hd hM hF⟩)))))) (fun z => absurd z (rb_fc40 hn))
    rw [hF n hn]
theorem i_vc_move {k : Nat} {u : SX} {v : SY} (I : i_Rel k u v) (hk : k + 4 ≤ 2048) (v1 : Int32) (v2 : Int32) : wpX_move (fun r => wpY_move (fun r' => r' = r ∧ i_Rel (k + 4) u v) v v1 v2) u v1 v2 := by
  obtain ⟨d, a, mo, P, S, Q, m, A, B, C, bf, rfl, rfl, hd, hM, hF⟩ := I
  unfold wpX_move wpY_move
  dsimp only
  by_cases hp : v1 = 0 ∨ v1 = 1
  · obtain ⟨p, hp2, rfl⟩ := rb_plx hp
    rcases rb_frx v2 with ⟨f1, f2⟩ | ⟨f, hf, rfl⟩
    · exact rb_xply (fun _ => br_f rb_10 (rb_xfrm (fun z => absurd f1 (fun w => w.elim z.1 z.2)) (fun _ => br_t rfl (rb_yply (fun _ => br_f rb_10 (rb_yfrm (fun z => absurd f2 (fun w => w.elim z.1 z.2)) (fun _ => br_t rfl ⟨rfl, rb_R hd hM hF⟩))) (fun z => absurd hp z))))) (fun z => absurd hp z)
    · exact rb_xply (fun _ => br_f rb_10 (rb_xfrm (fun _ => br_f rb_10 (rb_xu hp2 hf hM (rb_yply (fun _ => br_f rb_10 (rb_yfrm (fun _ => br_f rb_10 (rb_yu hp2 hf ⟨rfl, rb_R hd hM hF⟩)) (fun z => absurd z (rb_fr39 hf)))) (fun z => absurd hp z)))) (fun z => absurd z (rb_fr40 hf)))) (fun z => absurd hp z)
  · exact rb_xply (fun z => absurd z hp) (fun _ => br_t rfl (rb_yply (fun z => absurd z hp) (fun _ => br_t rfl ⟨rfl, rb_R hd hM hF⟩)))
theorem rb_Mv_z {a mo m : Nat → Int32} {p : Nat} (hM : rb_Mv a mo m) (hp : p < 2) : ∀ k, k < 40 → m (40 * p + k) = 0 ∨ ¬ m (40 * p + k) ≤ 0 := by
  intro k hk
  rcases hM p k hp hk with ⟨_, hm⟩ | ⟨_, hm, _⟩
  · exact Or.inl hm
  · exact Or.inr hm
theorem i_vc_missing {k : Nat} {u : SX} {v : SY} (I : i_Rel k u v) (hk : k + 4 ≤ 2048) (v1 : Int32) : wpX_missing (fun r => wpY_missing (fun r' => r' = r ∧ i_Rel (k + 4) u v) v v1) u v1 := by
  obtain ⟨d, a, mo, P, S, Q, m, A, B, C, bf, rfl, rfl, hd, hM, hF⟩ := I
  unfold wpX_missing wpY_missing
  dsimp only
  by_cases hp : v1 = 0 ∨ v1 = 1
  · obtain ⟨p, hp2, rfl⟩ := rb_plx hp
    have g := rb_gp_le m (40 * p) 40 0
    refine rb_xply (fun _ => br_f rb_10 (rb_xg hp2 hM (pk_le 40 (rb_gp m (40 * p) 40 0) (fun h => ?_) (fun h => ?_)))) (fun z => absurd hp z)
    · exact ⟨41, rb_yms hp2 (rb_Mv_z hM hp2) 40 0 rfl (fun z => absurd z (by omega)) (fun _ => ⟨rfl, rb_R hd hM hF⟩)⟩
    · exact ⟨41, rb_yms hp2 (rb_Mv_z hM hp2) 40 0 rfl (fun _ => ⟨rfl, rb_R hd hM hF⟩) (fun z => absurd h z)⟩
  · exact rb_xply (fun z => absurd z hp) (fun _ => br_t rfl ⟨0 + 1, br_f (by decide) (rb_yply (fun z => absurd z hp) (fun _ => br_t rfl (rb_yply (fun z => absurd z hp) (fun _ => br_t rfl ⟨rfl, rb_R hd hM hF⟩))))⟩)
theorem rb_z0 {x : Int32} (h : x = 0) : x ≤ 0 := by rw [h]; exact Int32.le_refl 0
theorem rb_z1 {x y : Int32} (h : x = y) (hy : 0 ≤ y) (n : ¬ y = 0) : ¬ x ≤ 0 := by rw [h]; exact fun w => n ((rb_le0 hy).mp w)
theorem i_vc_winner {k : Nat} {u : SX} {v : SY} (I : i_Rel k u v) (hk : k + 4 ≤ 2048) (v1 : Int32) : wpX_winner (fun r => wpY_winner (fun r' v' => r' = r ∧ i_Rel (k + 4) u v') v v1) u v1 := by
  obtain ⟨d, a, mo, P, S, Q, m, A, B, C, bf, rfl, rfl, hd, hM, hF⟩ := I
  unfold wpX_winner wX_winner_33 wpY_winner
  dsimp only
  rcases rb_nx' v1 with hn | ⟨n, hn, rfl⟩
  · refine rb_xfc (fun z => absurd hn (fun w => w.elim z.1 z.2)) (fun _ => br_t rfl (br_c (fun _ => ⟨rfl, rb_R hd hM hF⟩) (fun h1 => br_f (fun h2 => ?_) ⟨rfl, rb_R hd hM hF⟩)))
    exact hn.elim h1 (fun w => absurd h2 (Int32.not_le.mpr w))
  · have ok := rb_Ok_pl m n
    rw [hF n hn] at ok
    have k0 : 0 ≤ S (2 * n) := ok.1.1
    have k1 : 0 ≤ S (2 * n + 1) := ok.1.2
    refine rb_xfc (fun _ => br_f rb_10 (rb_xout (p := 0) (by decide) hn (fun s0 => rb_xout (p := 1) (by decide) hn (fun s1 => br_f rb_10 (br_f rb_10 ?_)) (fun s1 => br_f rb_10 (br_t rfl (br_t rfl (br_f rb_10 ?_))))) (fun s0 => rb_xout (p := 1) (by decide) hn (fun s1 => br_t rfl (br_f rb_10 ?_)) (fun s1 => br_t rfl (br_t rfl (br_t rfl ?_)))))) (fun z => absurd z (rb_fc40 hn))
    · refine br_f (nI_pos (by omega)) (br_t (nI_le (b := 40) hn (by omega)) (rb_yp hn (fun A' B' C' e => ?_)))
      have z0 : B' 0 = 0 := (rb_at_p (e.trans (hF n hn)) (p := 0) (by decide)).2.1.trans s0
      have z1 : B' 1 = 0 := (rb_at_p (e.trans (hF n hn)) (p := 1) (by decide)).2.1.trans s1
      exact rb_yo (fun _ => br_f rb_10 (br_t (rb_z0 z0) (br_t (rb_z0 z1) ⟨rfl, rb_R hd hM hF⟩))) (fun w => absurd (Or.inl z0) w)
    · refine br_f (nI_pos (by omega)) (br_t (nI_le (b := 40) hn (by omega)) (rb_yp hn (fun A' B' C' e => ?_)))
      have z0 : B' 0 = 0 := (rb_at_p (e.trans (hF n hn)) (p := 0) (by decide)).2.1.trans s0
      have z1 : B' 1 = S (2 * n + 1) := (rb_at_p (e.trans (hF n hn)) (p := 1) (by decide)).2.1
      exact rb_yo (fun _ => br_f rb_10 (br_t (rb_z0 z0) (br_f (rb_z1 z1 k1 s1) ⟨rfl, rb_R hd hM hF⟩))) (fun w => absurd (Or.inl z0) w)
    · refine br_f (nI_pos (by omega)) (br_t (nI_le (b := 40) hn (by omega)) (rb_yp hn (fun A' B' C' e => ?_)))
      have z0 : B' 0 = S (2 * n) := (rb_at_p (e.trans (hF n hn)) (p := 0) (by decide)).2.1
      have z1 : B' 1 = 0 := (rb_at_p (e.trans (hF n hn)) (p := 1) (by decide)).2.1.trans s1
      exact rb_yo (fun _ => br_f rb_10 (br_f (rb_z1 z0 k0 s0) ⟨rfl, rb_R hd hM hF⟩)) (fun w => absurd (Or.inr z1) w)
    · refine br_f (nI_pos (by omega)) (br_t (nI_le (b := 40) hn (by omega)) (rb_yp hn (fun A' B' C' e => ?_)))
      have z0 : B' 0 = S (2 * n) := (rb_at_p (e.trans (hF n hn)) (p := 0) (by decide)).2.1
      have z1 : B' 1 = S (2 * n + 1) := (rb_at_p (e.trans (hF n hn)) (p := 1) (by decide)).2.1
      exact rb_yo (fun w => absurd w (fun y => y.elim (fun q => s0 (z0.symm.trans q)) (fun q => s1 (z1.symm.trans q)))) (fun _ => br_t rfl ⟨rfl, rb_R hd hM hF⟩)
theorem i_vc_overAfter {k : Nat} {u : SX} {v : SY} (I : i_Rel k u v) (hk : k + 4 ≤ 2048) : wpX_overAfter (fun r => wpY_overAfter (fun r' v' => r' = r ∧ i_Rel (k + 4) u v') v) u := by
  obtain ⟨d, a, mo, P, S, Q, m, A, B, C, bf, rfl, rfl, hd, hM, hF⟩ := I
  exact ⟨42, rb_xoa hF 41 0 rfl ⟨42, rb_yoa 41 0 A B C rfl (fun A' B' C' => ⟨rfl, rb_R hd hM hF⟩)⟩⟩
theorem i_vc_settled {k : Nat} {u : SX} {v : SY} (I : i_Rel k u v) (hk : k + 4 ≤ 2048) : wpX_settled (fun r => wpY_settled (fun r' v' => r' = r ∧ i_Rel (k + 4) u v') v) u := by
  obtain ⟨d, a, mo, P, S, Q, m, A, B, C, bf, rfl, rfl, hd, hM, hF⟩ := I
  unfold wpX_settled wpY_settled
  dsimp only
  have g := rb_sr_le m 40 0
  have gs : rb_sr m 40 0 ≤ 40 := by omega
  refine rb_xsr hM (pk_le d (rb_sr m 40 0) (fun h => ?_) (fun h => ?_))
  · exact rb_ysr (rb_yp gs (fun A' B' C' e => br_t (nI_le h (by omega)) ⟨rfl, rb_R hd hM hF⟩))
  · have hge : ¬ nI d ≤ nI (rb_sr m 40 0) := nI_ge h (by omega)
    refine rb_xo gs (fun ho => br_f rb_10 ?_) (fun ho => br_t rfl ?_)
    · refine rb_ysr (rb_yp gs (fun A' B' C' e => br_f hge (rb_yo (fun _ => br_f rb_10 ⟨rfl, rb_R hd hM hF⟩) (fun w => absurd ho ?_))))
      rw [← hF _ gs, ← e]
      exact w
    · refine rb_ysr (rb_yp gs (fun A' B' C' e => br_f hge (rb_yo (fun w => absurd w ?_) (fun _ => br_t rfl ⟨rfl, rb_R hd hM hF⟩))))
      rw [e, hF _ gs]
      exact ho
end
end
