section
/-! rows of kit/rows, pasted -/
theorem pk_us {f : Nat → Int32} {k : Nat} {x : Int32} : upd f k x k = x := if_pos rfl
theorem pk_un {f : Nat → Int32} {k j : Nat} {x : Int32} (h : j ≠ k) : upd f k x j = f j := if_neg h
theorem pk_sub {a b : Nat} (h : b ≤ a) : nI a - nI b = nI (a - b) := by
  obtain ⟨c, rfl⟩ : ∃ c, a = c + b := ⟨a - b, by omega⟩
  rw [← nI_add, Int32.add_sub_cancel, Nat.add_sub_cancel]
theorem pk_m1 (n : Nat) : nI (n + 1) + (-1) = nI n := by
  rw [← nI_1, Int32.add_assoc, show (1 : Int32) + (-1) = 0 from rfl, Int32.add_zero]
theorem pk_mul (a b : Nat) : nI a * nI b = nI (a * b) := (Int32.ofNat_mul a b).symm
theorem pk_ix (x : Int32) {n : Nat} (hn : n < 2 ^ 31) : x < 0 ∨ nI n ≤ x ∨ ∃ j : Nat, j < n ∧ x = nI j := by
  by_cases h : x < 0
  · exact Or.inl h
  · obtain ⟨j, hj, rfl⟩ := nI_of h
    by_cases h2 : j < n
    · exact Or.inr (Or.inr ⟨j, h2, rfl⟩)
    · exact Or.inr (Or.inl (nI_le (by omega) hj))
theorem pk_le {x y : Int32} {A B : Prop} (a b : Nat) (f : a ≤ b → A) (g : b < a → B) (hx : x = nI a := by rfl) (hy : y = nI b := by rfl) (ha : a < 2 ^ 31 := by omega) (hb : b < 2 ^ 31 := by omega) : (x ≤ y → A) ∧ (¬ x ≤ y → B) := by
  subst hx hy
  rw [nI_leI ha hb]
  exact ⟨f, fun z => g (by omega)⟩
theorem pk_lt {x y : Int32} {A B : Prop} (a b : Nat) (f : a < b → A) (g : b ≤ a → B) (hx : x = nI a := by rfl) (hy : y = nI b := by rfl) (ha : a < 2 ^ 31 := by omega) (hb : b < 2 ^ 31 := by omega) : (x < y → A) ∧ (¬ x < y → B) := by
  subst hx hy
  rw [nI_ltI ha hb]
  exact ⟨f, fun z => g (by omega)⟩
theorem pk_in {x : Int32} (n N : Nat) (h : n < N) (hx : x = nI n := by rfl) (hN : N < 2 ^ 31 := by omega) : vp_in x N := by
  subst hx
  exact vp_in_nI h hN
theorem pk_cl {x : Int32} (n : Nat) (hx : x = nI n := by rfl) (h : n < 2 ^ 31 := by omega) : x.toNatClampNeg = n := by
  subst hx
  exact nI_clamp h
/-! the game, pure: one frame -/
def rb_go (t x : Int32) : Int32 := if t = 1 then x - 1 else if t = 2 then x + 1 else x
def rb_wg (g x y : Int32) : Int32 := if ¬ g < 0 ∧ ¬ 9 < g ∧ ¬ g = y then g else x
def rb_wk (t x y : Int32) : Int32 := rb_wg (rb_go t x) x y
def rb_ht (t x y s : Int32) : Int32 := if t = 3 ∧ (¬ x - y < -1 ∧ ¬ 1 < x - y) ∧ ¬ s ≤ 0 then s - 1 else s
def rb_es (q : Int32) : Int32 := if q = 0 then 0 else q - 1
def rb_ps (t q : Int32) : Int32 := if t = 3 then 2 else q
def rb_tk (q t : Int32) : Int32 := if q = 0 then t else 0
abbrev rb_F : Type := Int32 × Int32 × Int32 × Int32 × Int32 × Int32
def rb_s2 (m0 m1 y0 y1 s0 s1 q0 q1 : Int32) : rb_F := (y0, y1, rb_ht m1 y0 y1 s0, rb_ht m0 y0 y1 s1, rb_ps m0 (rb_es q0), rb_ps m1 (rb_es q1))
def rb_s1 (m0 m1 x0 x1 s0 s1 q0 q1 : Int32) : rb_F := rb_s2 m0 m1 (rb_wk m0 x0 x1) (rb_wk m1 x1 (rb_wk m0 x0 x1)) s0 s1 q0 q1
def rb_st (t0 t1 : Int32) (g : rb_F) : rb_F := match g with
  | (x0, x1, s0, s1, q0, q1) => rb_s1 (rb_tk q0 t0) (rb_tk q1 t1) x0 x1 s0 s1 q0 q1
abbrev rb_ov (g : rb_F) : Prop := g.2.2.1 = 0 ∨ g.2.2.2.1 = 0
def rb_nx (t0 t1 : Int32) (g : rb_F) : rb_F := if rb_ov g then g else rb_st t0 t1 g
/-! the move used, and what is shown after n frames; m holds 0 or the move and one, player p's from 40 * p on -/
def rb_ug (m : Nat → Int32) (b : Nat) : Nat → Int32
  | 0 => 0
  | k + 1 => if m (b + k) ≤ 0 then rb_ug m b k else (if m (b + k) - 1 = 3 then 0 else m (b + k) - 1)
theorem rb_ug_s (m : Nat → Int32) (b k : Nat) : rb_ug m b (k + 1) = if m (b + k) ≤ 0 then rb_ug m b k else (if m (b + k) - 1 = 3 then 0 else m (b + k) - 1) := rfl
def rb_ud (m : Nat → Int32) (b k : Nat) : Int32 := if m (b + k) ≤ 0 then rb_ug m b k else m (b + k) - 1
def rb_pl (m : Nat → Int32) : Nat → rb_F
  | 0 => (2, 7, 5, 5, 0, 0)
  | n + 1 => rb_nx (rb_ud m (40 * 0) n) (rb_ud m (40 * 1) n) (rb_pl m n)
theorem rb_pl_s (m : Nat → Int32) (n : Nat) : rb_pl m (n + 1) = rb_nx (rb_ud m (40 * 0) n) (rb_ud m (40 * 1) n) (rb_pl m n) := rfl
theorem rb_pl_ov {m : Nat → Int32} {n : Nat} (h : rb_ov (rb_pl m n)) : ∀ j, rb_pl m (n + j) = rb_pl m n := by
  intro j
  induction j with
  | zero => rfl
  | succ j ih =>
    show rb_pl m ((n + j) + 1) = _
    rw [rb_pl_s, ih]
    exact if_pos h
theorem rb_ug_eq {m m' : Nat → Int32} {b : Nat} : ∀ k, (∀ i, i < k → m (b + i) = m' (b + i)) → rb_ug m b k = rb_ug m' b k := by
  intro k
  induction k with
  | zero => intro _; rfl
  | succ k ih =>
    intro h
    show (if m (b + k) ≤ 0 then rb_ug m b k else (if m (b + k) - 1 = 3 then 0 else m (b + k) - 1)) = (if m' (b + k) ≤ 0 then rb_ug m' b k else (if m' (b + k) - 1 = 3 then 0 else m' (b + k) - 1))
    rw [h k (by omega), ih (fun i hi => h i (by omega))]
theorem rb_ud_eq {m m' : Nat → Int32} {b : Nat} (k : Nat) (h : ∀ i, i < k + 1 → m (b + i) = m' (b + i)) : rb_ud m b k = rb_ud m' b k := by
  unfold rb_ud
  rw [h k (by omega), rb_ug_eq k (fun i hi => h i (by omega))]
theorem rb_pl_eq {m m' : Nat → Int32} : ∀ n, (∀ p i, p < 2 → i < n → m (40 * p + i) = m' (40 * p + i)) → rb_pl m n = rb_pl m' n := by
  intro n
  induction n with
  | zero => intro _; rfl
  | succ n ih =>
    intro h
    rw [rb_pl_s, rb_pl_s, ih (fun p i hp hi => h p i hp (by omega)), rb_ud_eq n (fun i hi => h 0 i (by omega) hi), rb_ud_eq n (fun i hi => h 1 i (by omega) hi)]
/-! strengths and pauses are not negative -/
theorem rb_le0 {q : Int32} (h : 0 ≤ q) : q ≤ 0 ↔ q = 0 :=
  ⟨fun z => Int32.le_antisymm z h, fun z => by rw [z]; exact Int32.le_refl 0⟩
theorem rb_dec {q : Int32} (h : 0 ≤ q) (h0 : ¬ q = 0) : 0 ≤ q - 1 := by
  obtain ⟨j, hj, rfl⟩ := nI_of (x := q) (Int32.not_lt.mpr h)
  obtain ⟨i, rfl⟩ : ∃ i, j = i + 1 := ⟨j - 1, by
    have : j ≠ 0 := fun z => h0 (by rw [z, nI_0])
    omega⟩
  rw [nI_pred]
  exact nI_pos' (by omega)
theorem rb_ok_es {q : Int32} (h : 0 ≤ q) : 0 ≤ rb_es q := by
  unfold rb_es
  split
  · exact Int32.le_refl 0
  · exact rb_dec h (by assumption)
theorem rb_ok_ps {t q : Int32} (h : 0 ≤ q) : 0 ≤ rb_ps t q := by
  unfold rb_ps
  split
  · decide
  · exact h
theorem rb_ok_ht {t x y s : Int32} (h : 0 ≤ s) : 0 ≤ rb_ht t x y s := by
  unfold rb_ht
  split
  · rename_i z
    exact rb_dec h (fun e => z.2.2 ((rb_le0 h).mpr e))
  · exact h
def rb_Ok (g : rb_F) : Prop := (0 ≤ g.2.2.1 ∧ 0 ≤ g.2.2.2.1) ∧ 0 ≤ g.2.2.2.2.1 ∧ 0 ≤ g.2.2.2.2.2
theorem rb_Ok_nx {t0 t1 : Int32} {g : rb_F} (h : rb_Ok g) : rb_Ok (rb_nx t0 t1 g) := by
  unfold rb_nx
  split
  · exact h
  · obtain ⟨x0, x1, s0, s1, q0, q1⟩ := g
    exact ⟨⟨rb_ok_ht h.1.1, rb_ok_ht h.1.2⟩, rb_ok_ps (rb_ok_es h.2.1), rb_ok_ps (rb_ok_es h.2.2)⟩
theorem rb_Ok_pl (m : Nat → Int32) : ∀ n, rb_Ok (rb_pl m n) := by
  intro n
  induction n with
  | zero => exact (⟨⟨by decide, by decide⟩, by decide, by decide⟩ : rb_Ok (2, 7, 5, 5, 0, 0))
  | succ n ih => rw [rb_pl_s]; exact rb_Ok_nx ih
/-! near is near from both sides -/
theorem rb_near {x y : Int32} : (¬ y - x < -1 ∧ ¬ 1 < y - x) ↔ (¬ x - y < -1 ∧ ¬ 1 < x - y) := by
  have e : y - x = -(x - y) := Int32.neg_sub.symm
  rw [e]
  generalize x - y = d
  have h1 : ((-1 : Int32)).toInt = -1 := by decide
  have h2 : ((1 : Int32)).toInt = 1 := by decide
  rw [Int32.lt_iff_toInt_lt, Int32.lt_iff_toInt_lt, Int32.lt_iff_toInt_lt, Int32.lt_iff_toInt_lt, h1, h2, Int32.toInt_neg]
  have a := Int32.toInt_lt d
  have b := Int32.le_toInt d
  generalize d.toInt = z at a b ⊢
  by_cases hz : z = -2 ^ 31
  · subst hz; decide
  · rw [Int.bmod_eq_of_le (by omega) (by omega)]; omega
/-! the picture's number, and how many differ -/
def rb_cd (g : rb_F) : Int32 := match g with
  | (x0, x1, s0, s1, q0, q1) => x0 + 10 * x1 + 100 * s0 + 1000 * s1 + 10000 * q0 + 100000 * q1
def rb_cn (e e' : Nat → Int32) : Nat → Nat
  | 0 => 0
  | n + 1 => if e' (n + 1) = e (n + 1) then rb_cn e e' n else rb_cn e e' n + 1
theorem rb_cn_s (e e' : Nat → Int32) (n : Nat) : rb_cn e e' (n + 1) = if e' (n + 1) = e (n + 1) then rb_cn e e' n else rb_cn e e' n + 1 := rfl
theorem rb_cn_0 {e e' : Nat → Int32} : ∀ n, (∀ k, k ≤ n → e' k = e k) → rb_cn e e' n = 0 := by
  intro n
  induction n with
  | zero => intro _; rfl
  | succ n ih =>
    intro h
    rw [rb_cn_s, if_pos (h (n + 1) (by omega))]
    exact ih (fun k hk => h k (by omega))
theorem rb_cn_le (e e' : Nat → Int32) : ∀ n, rb_cn e e' n ≤ n := by
  intro n
  induction n with
  | zero => exact Nat.le_refl 0
  | succ n ih =>
    rw [rb_cn_s]
    split <;> omega
theorem rb_cn_eq {e e' c c' : Nat → Int32} : ∀ n, (∀ k, k ≤ n → c k = e k) → (∀ k, k ≤ n → c' k = e' k) → rb_cn c c' n = rb_cn e e' n := by
  intro n
  induction n with
  | zero => intro _ _; rfl
  | succ n ih =>
    intro h h'
    rw [rb_cn_s, rb_cn_s, h (n + 1) (by omega), h' (n + 1) (by omega), ih (fun k hk => h k (by omega)) (fun k hk => h' k (by omega))]
/-! the first gap, the sure frames, the fight's end -/
def rb_gp (m : Nat → Int32) (b : Nat) : Nat → Nat → Nat
  | 0, k => k
  | d + 1, k => if m (b + k) ≤ 0 then k else rb_gp m b d (k + 1)
theorem rb_gp_s (m : Nat → Int32) (b d k : Nat) : rb_gp m b (d + 1) k = if m (b + k) ≤ 0 then k else rb_gp m b d (k + 1) := rfl
theorem rb_gp_le (m : Nat → Int32) (b : Nat) : ∀ d k, k ≤ rb_gp m b d k ∧ rb_gp m b d k ≤ k + d := by
  intro d
  induction d with
  | zero => intro k; exact ⟨Nat.le_refl k, Nat.le_refl k⟩
  | succ d ih =>
    intro k
    rw [rb_gp_s]
    have := ih (k + 1)
    split <;> omega
def rb_sr (m : Nat → Int32) : Nat → Nat → Nat
  | 0, k => k
  | d + 1, k => if m (40 * 0 + k) ≤ 0 ∨ m (40 * 1 + k) ≤ 0 then k else rb_sr m d (k + 1)
theorem rb_sr_s (m : Nat → Int32) (d k : Nat) : rb_sr m (d + 1) k = if m (40 * 0 + k) ≤ 0 ∨ m (40 * 1 + k) ≤ 0 then k else rb_sr m d (k + 1) := rfl
theorem rb_sr_eq (m : Nat → Int32) : ∀ d k, rb_sr m d k = if rb_gp m (40 * 0) d k < rb_gp m (40 * 1) d k then rb_gp m (40 * 0) d k else rb_gp m (40 * 1) d k := by
  intro d
  induction d with
  | zero =>
    intro k
    show k = if k < k then k else k
    rw [if_neg (Nat.lt_irrefl k)]
  | succ d ih =>
    intro k
    have h0 := rb_gp_le m (40 * 0) d (k + 1)
    have h1 := rb_gp_le m (40 * 1) d (k + 1)
    rw [rb_sr_s, rb_gp_s, rb_gp_s, ih]
    by_cases c0 : m (40 * 0 + k) ≤ 0
    · rw [if_pos (Or.inl c0), if_pos c0]
      by_cases c1 : m (40 * 1 + k) ≤ 0
      · rw [if_pos c1, if_neg (by omega)]
      · rw [if_neg c1, if_pos (by omega)]
    · rw [if_neg c0]
      by_cases c1 : m (40 * 1 + k) ≤ 0
      · rw [if_pos (Or.inr c1), if_pos c1, if_neg (by omega)]
      · rw [if_neg (fun z => z.elim c0 c1), if_neg c1]
theorem rb_sr_le (m : Nat → Int32) : ∀ d k, k ≤ rb_sr m d k ∧ rb_sr m d k ≤ k + d := by
  intro d k
  have h0 := rb_gp_le m (40 * 0) d k
  have h1 := rb_gp_le m (40 * 1) d k
  rw [rb_sr_eq]
  split <;> omega
def rb_oa (m : Nat → Int32) : Nat → Nat → Int32
  | 0, _ => -2
  | d + 1, k => if rb_ov (rb_pl m k) then nI k else rb_oa m d (k + 1)
theorem rb_oa_s (m : Nat → Int32) (d k : Nat) : rb_oa m (d + 1) k = if rb_ov (rb_pl m k) then nI k else rb_oa m d (k + 1) := rfl
/-! what the two sides hold -/
def rb_Mv (a mo m : Nat → Int32) : Prop := ∀ p k, p < 2 → k < 40 → (a (2 * k + p) = 0 ∧ m (40 * p + k) = 0) ∨ (¬ a (2 * k + p) = 0 ∧ ¬ m (40 * p + k) ≤ 0 ∧ mo (2 * k + p) = m (40 * p + k) - 1)
def rb_at (P S Q : Nat → Int32) (i : Nat) : rb_F := (P i, P (i + 1), S i, S (i + 1), Q i, Q (i + 1))
theorem rb_Mv_0 : rb_Mv (fun _ => 0) (fun _ => 0) (fun _ => 0) := fun _ _ _ _ => Or.inl ⟨rfl, rfl⟩
theorem rb_c1 {c : Nat} (hc : c < 4) : ¬ nI c + 1 ≤ 0 := by
  rw [nI_1, ← nI_0]
  exact nI_ge (by omega) (by omega)
theorem rb_Mv_put {a mo m : Nat → Int32} {p f c : Nat} (h : rb_Mv a mo m) (hp : p < 2) (hf : f < 40) (hc : c < 4) : rb_Mv (upd a (2 * f + p) 1) (upd mo (2 * f + p) (nI c)) (upd m (40 * p + f) (nI c + 1)) := by
  intro p' k hp' hk
  by_cases e : p' = p ∧ k = f
  · obtain ⟨rfl, rfl⟩ := e
    rw [pk_us, pk_us, pk_us]
    exact Or.inr ⟨by decide, rb_c1 hc, by rw [nI_1, nI_pred]⟩
  · have e1 : 2 * k + p' ≠ 2 * f + p := by omega
    have e2 : 40 * p' + k ≠ 40 * p + f := by omega
    rw [pk_un e1, pk_un e1, pk_un e2]
    exact h p' k hp' hk
theorem rb_pl_put {m : Nat → Int32} {p f n : Nat} {x : Int32} (hp : p < 2) (hf : f < 40) (hn : n ≤ f) : rb_pl (upd m (40 * p + f) x) n = rb_pl m n :=
  rb_pl_eq n (fun p' i hp' hi => pk_un (by omega))
/-! what X counts as it goes -/
def rb_cx (e e' : Nat → Int32) (d f : Nat) : Nat := rb_cn e e' (if f < d then f else d)
theorem rb_cx_t {e e' : Nat → Int32} {d f : Nat} (h : f < d) (hn : ¬ e' (f + 1) = e (f + 1)) : rb_cx e e' d (f + 1) = rb_cx e e' d f + 1 := by
  unfold rb_cx
  rw [if_pos h]
  by_cases h2 : f + 1 < d
  · rw [if_pos h2, rb_cn_s, if_neg hn]
  · rw [if_neg h2]
    obtain rfl : d = f + 1 := by omega
    rw [rb_cn_s, if_neg hn]
theorem rb_cx_e {e e' : Nat → Int32} {d f : Nat} (hn : e' (f + 1) = e (f + 1)) : rb_cx e e' d (f + 1) = rb_cx e e' d f := by
  unfold rb_cx
  by_cases h : f < d
  · rw [if_pos h]
    by_cases h2 : f + 1 < d
    · rw [if_pos h2, rb_cn_s, if_pos hn]
    · rw [if_neg h2]
      obtain rfl : d = f + 1 := by omega
      rw [rb_cn_s, if_pos hn]
  · rw [if_neg h, if_neg (by omega)]
theorem rb_cx_d {e e' : Nat → Int32} {d f : Nat} (h : d ≤ f) : rb_cx e e' d (f + 1) = rb_cx e e' d f := by
  unfold rb_cx
  rw [if_neg (by omega), if_neg (by omega)]
theorem rb_cx_end {e e' : Nat → Int32} {d : Nat} (h : d ≤ 40) : rb_cx e e' d 40 = rb_cn e e' d := by
  unfold rb_cx
  by_cases h2 : 40 < d
  · exact absurd h2 (by omega)
  · rw [if_neg h2]
theorem rb_cx_0 {e e' : Nat → Int32} {d f : Nat} (h : ∀ k, k ≤ f → e' k = e k) : rb_cx e e' d f = 0 :=
  rb_cn_0 _ (fun k hk => h k (by split at hk <;> omega))
/-! index arithmetic -/
theorem rb_i (f p : Nat) : 2 * nI f + nI p = nI (2 * f + p) := by
  rw [show (2 : Int32) = nI 2 from rfl, pk_mul, nI_add]
theorem rb_j (p f : Nat) : 40 * nI p + nI f = nI (40 * p + f) := by
  rw [show (40 : Int32) = nI 40 from rfl, pk_mul, nI_add]
theorem rb_i1 {f p : Nat} (hp : p < 2) : 2 * nI f + 1 - nI p = nI (2 * f + 1 - p) := by
  rw [show (2 : Int32) = nI 2 from rfl, pk_mul, nI_1, pk_sub (by omega)]
theorem rb_i2 (f : Nat) : 2 * nI f = nI (2 * f) := by
  rw [show (2 : Int32) = nI 2 from rfl, pk_mul]
theorem rb_m1 (x : Int32) : x + (-1) = x - 1 := (Int32.sub_eq_add_neg x 1).symm
end
