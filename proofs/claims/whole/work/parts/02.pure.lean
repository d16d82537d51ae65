/-! the pure picture: neighbours, one relaxation, a sweep, the rounds -/
def cn_nb (c d : Nat) : Nat := if d = 0 then (if c < 9 then 81 else c - 9) else if d = 1 then (if c % 9 = 8 then 81 else c + 1) else if d = 2 then (if 71 < c then 81 else c + 9) else (if c % 9 = 0 then 81 else c - 1)
abbrev cn_cd (k D : Nat → Nat) (c d : Nat) : Prop := cn_nb c d < 81 ∧ D (cn_nb c d) < 1000000 ∧ D (cn_nb c d) + k (cn_nb c d) < D c
def cn_up (D : Nat → Nat) (c w : Nat) : Nat → Nat := fun j => if j = c then w else D j
def cn_st (k : Nat → Nat) (c d : Nat) (s : Bool × (Nat → Nat)) : Bool × (Nat → Nat) := if cn_cd k s.2 c d then (true, cn_up s.2 c (s.2 (cn_nb c d) + k (cn_nb c d))) else s
def cn_rx (k : Nat → Nat) (c : Nat) (s : Bool × (Nat → Nat)) : Nat → Bool × (Nat → Nat)
  | 0 => s
  | i + 1 => cn_st k c i (cn_rx k c s i)
def cn_sw (B : Nat → Int32) (k D : Nat → Nat) : Nat → Bool × (Nat → Nat)
  | 0 => (false, D)
  | i + 1 => if B i = 0 then ((cn_sw B k D i).1 || (cn_rx k i (false, (cn_sw B k D i).2) 4).1, (cn_rx k i (false, (cn_sw B k D i).2) 4).2) else cn_sw B k D i
def cn_rn (B : Nat → Int32) (k D : Nat → Nat) : Nat → Bool × (Nat → Nat)
  | 0 => (true, D)
  | n + 1 => if (cn_rn B k D n).1 = true then cn_sw B k (cn_rn B k D n).2 81 else cn_rn B k D n
theorem cn_up_s (D : Nat → Nat) (c w : Nat) : cn_up D c w c = w := if_pos rfl
theorem cn_up_n (D : Nat → Nat) (c w : Nat) {j : Nat} (h : j ≠ c) : cn_up D c w j = D j := if_neg h
theorem cn_st_t {k : Nat → Nat} {c d : Nat} {s : Bool × (Nat → Nat)} (h : cn_cd k s.2 c d) : cn_st k c d s = (true, cn_up s.2 c (s.2 (cn_nb c d) + k (cn_nb c d))) := if_pos h
theorem cn_st_f {k : Nat → Nat} {c d : Nat} {s : Bool × (Nat → Nat)} (h : ¬ cn_cd k s.2 c d) : cn_st k c d s = s := if_neg h
theorem cn_rx_s (k : Nat → Nat) (c : Nat) (s : Bool × (Nat → Nat)) (i : Nat) : cn_rx k c s (i + 1) = cn_st k c i (cn_rx k c s i) := rfl
theorem cn_sw_t {B : Nat → Int32} (k D : Nat → Nat) {i : Nat} (h : B i = 0) : cn_sw B k D (i + 1) = ((cn_sw B k D i).1 || (cn_rx k i (false, (cn_sw B k D i).2) 4).1, (cn_rx k i (false, (cn_sw B k D i).2) 4).2) := if_pos h
theorem cn_sw_f {B : Nat → Int32} (k D : Nat → Nat) {i : Nat} (h : ¬ B i = 0) : cn_sw B k D (i + 1) = cn_sw B k D i := if_neg h
theorem cn_rn_t {B : Nat → Int32} {k D : Nat → Nat} {n : Nat} (h : (cn_rn B k D n).1 = true) : cn_rn B k D (n + 1) = cn_sw B k (cn_rn B k D n).2 81 := if_pos h
theorem cn_rn_f {B : Nat → Int32} {k D : Nat → Nat} {n : Nat} (h : ¬ (cn_rn B k D n).1 = true) : cn_rn B k D (n + 1) = cn_rn B k D n := if_neg h
/-! what each relaxation keeps, a sweep keeps, and the rounds keep -/
theorem cn_ind_rx (k : Nat → Nat) (c : Nat) (P : Nat → (Nat → Nat) → Prop)
    (hs : ∀ b D d, d < 4 → cn_cd k D c d → P b D → P (b + 1) (cn_up D c (D (cn_nb c d) + k (cn_nb c d)))) (hw : ∀ b D, P b D → P (b + 1) D)
    (s : Bool × (Nat → Nat)) (b : Nat) (h : P b s.2) : ∀ i, i ≤ 4 → P (b + i) (cn_rx k c s i).2 := by
  intro i
  induction i with
  | zero => intro _; exact h
  | succ i ih =>
    intro hi
    have h1 := ih (by omega)
    rw [cn_rx_s]
    by_cases e : cn_cd k (cn_rx k c s i).2 c i
    · rw [cn_st_t e]
      exact hs (b + i) _ i (by omega) e h1
    · rw [cn_st_f e]
      exact hw (b + i) _ h1
theorem cn_ind_sw (B : Nat → Int32) (k : Nat → Nat) (P : Nat → (Nat → Nat) → Prop)
    (hs : ∀ b D c d, c < 81 → B c = 0 → d < 4 → cn_cd k D c d → P b D → P (b + 1) (cn_up D c (D (cn_nb c d) + k (cn_nb c d)))) (hw : ∀ b D, P b D → P (b + 1) D)
    (D : Nat → Nat) (b : Nat) (h : P b D) : ∀ i, i ≤ 81 → P (b + 4 * i) (cn_sw B k D i).2 := by
  intro i
  induction i with
  | zero => intro _; exact h
  | succ i ih =>
    intro hi
    have h1 := ih (by omega)
    by_cases e : B i = 0
    · rw [cn_sw_t k D e]
      exact cn_ind_rx k i P (fun b D d => hs b D i d (by omega) e) hw (false, (cn_sw B k D i).2) (b + 4 * i) h1 4 (Nat.le_refl 4)
    · rw [cn_sw_f k D e]
      exact hw _ _ (hw _ _ (hw _ _ (hw _ _ h1)))
theorem cn_ind_rn (B : Nat → Int32) (k : Nat → Nat) (P : Nat → (Nat → Nat) → Prop)
    (hs : ∀ b D c d, c < 81 → B c = 0 → d < 4 → cn_cd k D c d → P b D → P (b + 1) (cn_up D c (D (cn_nb c d) + k (cn_nb c d)))) (hw : ∀ b D, P b D → P (b + 1) D)
    (D : Nat → Nat) (b : Nat) (h : P b D) : ∀ n, P (b + 324 * n) (cn_rn B k D n).2 := by
  have hm : ∀ m b D, P b D → P (b + m) D := by
    intro m
    induction m with
    | zero => intro b D h; exact h
    | succ m ih => intro b D h; exact hw _ _ (ih b D h)
  intro n
  induction n with
  | zero => exact h
  | succ n ih =>
    by_cases e : (cn_rn B k D n).1 = true
    · rw [cn_rn_t e]
      exact cn_ind_sw B k P hs hw (cn_rn B k D n).2 (b + 324 * n) ih 81 (Nat.le_refl 81)
    · rw [cn_rn_f e]
      exact hm 324 _ _ ih
/-! bounds: no sum leaves the ints, blocked cells are never reached -/
def cn_Iv (B : Nat → Int32) (b : Nat) (D : Nat → Nat) : Prop := (∀ j, j < 81 → D j ≤ 37 * b ∨ D j = 1000000) ∧ (∀ j, j < 81 → ¬ B j = 0 → D j = 1000000)
theorem cn_Iv_s {B : Nat → Int32} {k : Nat → Nat} (hk : ∀ j, 1 ≤ k j ∧ k j ≤ 37) (b : Nat) (D : Nat → Nat) (c d : Nat) (hc : B c = 0) (h : cn_cd k D c d) (I : cn_Iv B b D) : cn_Iv B (b + 1) (cn_up D c (D (cn_nb c d) + k (cn_nb c d))) := by
  obtain ⟨h1, h2, h3⟩ := h
  have a := I.1 _ h1
  have k1 := hk (cn_nb c d)
  refine ⟨fun j hj => ?_, fun j hj hB => ?_⟩
  · by_cases e : j = c
    · subst e; rw [cn_up_s]; omega
    · rw [cn_up_n D c _ e]
      have := I.1 j hj
      omega
  · by_cases e : j = c
    · subst e; exact absurd hc hB
    · rw [cn_up_n D c _ e]; exact I.2 j hj hB
theorem cn_Iv_w {B : Nat → Int32} (b : Nat) (D : Nat → Nat) (I : cn_Iv B b D) : cn_Iv B (b + 1) D := ⟨fun j hj => by have := I.1 j hj; omega, I.2⟩
/-! a fixed point -/
def cn_fx (B : Nat → Int32) (k D : Nat → Nat) : Prop := ∀ c, c < 81 → B c = 0 → ∀ d, d < 4 → ¬ cn_cd k D c d
theorem cn_rx_fx {k D : Nat → Nat} {c : Nat} (h : ∀ d, d < 4 → ¬ cn_cd k D c d) (f : Bool) : ∀ i, i ≤ 4 → cn_rx k c (f, D) i = (f, D) := by
  intro i
  induction i with
  | zero => intro _; rfl
  | succ i ih =>
    intro hi
    rw [cn_rx_s, ih (by omega)]
    exact cn_st_f (h i (by omega))
theorem cn_sw_fx {B : Nat → Int32} {k D : Nat → Nat} (h : cn_fx B k D) : ∀ i, i ≤ 81 → cn_sw B k D i = (false, D) := by
  intro i
  induction i with
  | zero => intro _; rfl
  | succ i ih =>
    intro hi
    by_cases e : B i = 0
    · rw [cn_sw_t k D e, ih (by omega), cn_rx_fx (h i (by omega) e) false 4 (Nat.le_refl 4)]
      rfl
    · rw [cn_sw_f k D e, ih (by omega)]
theorem cn_rx_fl {k D : Nat → Nat} {c : Nat} : ∀ i, (cn_rx k c (false, D) i).1 = false → (cn_rx k c (false, D) i).2 = D ∧ ∀ d, d < i → ¬ cn_cd k D c d := by
  intro i
  induction i with
  | zero => intro _; exact ⟨rfl, fun d hd => absurd hd (Nat.not_lt_zero d)⟩
  | succ i ih =>
    intro h
    rw [cn_rx_s] at h ⊢
    by_cases e : cn_cd k (cn_rx k c (false, D) i).2 c i
    · rw [cn_st_t e] at h
      exact Bool.noConfusion (show true = false from h)
    · rw [cn_st_f e] at h ⊢
      obtain ⟨a, b⟩ := ih h
      refine ⟨a, fun d hd => ?_⟩
      by_cases q : d = i
      · subst q; rw [a] at e; exact e
      · exact b d (by omega)
theorem cn_sw_fl {B : Nat → Int32} {k D : Nat → Nat} : ∀ i, (cn_sw B k D i).1 = false → (cn_sw B k D i).2 = D ∧ ∀ c, c < i → B c = 0 → ∀ d, d < 4 → ¬ cn_cd k D c d := by
  intro i
  induction i with
  | zero => intro _; exact ⟨rfl, fun d hd => absurd hd (Nat.not_lt_zero d)⟩
  | succ i ih =>
    intro h
    by_cases e : B i = 0
    · rw [cn_sw_t k D e] at h ⊢
      have h' : ((cn_sw B k D i).1 || (cn_rx k i (false, (cn_sw B k D i).2) 4).1) = false := h
      rw [Bool.or_eq_false_iff] at h'
      obtain ⟨a, b⟩ := ih h'.1
      have h2 := h'.2
      obtain ⟨a2, b2⟩ := cn_rx_fl 4 h2
      rw [a] at b2
      refine ⟨a2.trans a, fun c hc hB d hd => ?_⟩
      by_cases q : c = i
      · subst q; exact b2 d hd
      · exact b c (by omega) hB d hd
    · rw [cn_sw_f k D e] at h ⊢
      obtain ⟨a, b⟩ := ih h
      refine ⟨a, fun c hc hB d hd => ?_⟩
      by_cases q : c = i
      · subst q; exact absurd hB e
      · exact b c (by omega) hB d hd
theorem cn_rn_fl {B : Nat → Int32} {k D : Nat → Nat} : ∀ n, (cn_rn B k D n).1 = false → cn_fx B k (cn_rn B k D n).2 := by
  intro n
  induction n with
  | zero => intro h; exact Bool.noConfusion (show true = false from h)
  | succ n ih =>
    intro h
    by_cases e : (cn_rn B k D n).1 = true
    · rw [cn_rn_t e] at h ⊢
      obtain ⟨a, b⟩ := cn_sw_fl 81 h
      rw [a]
      exact b
    · rw [cn_rn_f e] at h ⊢
      exact ih h
theorem cn_rn_stay {B : Nat → Int32} {k D : Nat → Nat} {n : Nat} (h : (cn_rn B k D n).1 = false) : ∀ m, cn_rn B k D (n + m) = cn_rn B k D n := by
  intro m
  induction m with
  | zero => rfl
  | succ m ih =>
    rw [← Nat.add_assoc, cn_rn_f (by rw [ih, h]; decide), ih]
theorem cn_rn_fx {B : Nat → Int32} {k D : Nat → Nat} (h : cn_fx B k D) : ∀ n, (cn_rn B k D n).2 = D := by
  intro n
  induction n with
  | zero => rfl
  | succ n ih =>
    by_cases e : (cn_rn B k D n).1 = true
    · rw [cn_rn_t e, ih, cn_sw_fx h 81 (Nat.le_refl 81)]
    · rw [cn_rn_f e, ih]
/-! a sweep relaxes every edge at least as well as from its start -/
theorem cn_up_le {k D : Nat → Nat} {c d : Nat} (h : cn_cd k D c d) (j : Nat) : cn_up D c (D (cn_nb c d) + k (cn_nb c d)) j ≤ D j := by
  by_cases e : j = c
  · subst e; rw [cn_up_s]; exact Nat.le_of_lt h.2.2
  · rw [cn_up_n D c _ e]; exact Nat.le_refl _
theorem cn_rx_le (k : Nat → Nat) (c : Nat) (s : Bool × (Nat → Nat)) (i : Nat) (hi : i ≤ 4) (j : Nat) : (cn_rx k c s i).2 j ≤ s.2 j :=
  cn_ind_rx k c (fun _ D => ∀ j, D j ≤ s.2 j) (fun _ D d _ hcd h j => Nat.le_trans (cn_up_le hcd j) (h j)) (fun _ _ h => h) s 0 (fun _ => Nat.le_refl _) i hi j
theorem cn_sw_le (B : Nat → Int32) (k D : Nat → Nat) (i : Nat) (hi : i ≤ 81) (j : Nat) : (cn_sw B k D i).2 j ≤ D j :=
  cn_ind_sw B k (fun _ D' => ∀ j, D' j ≤ D j) (fun _ D' c d _ _ _ hcd h j => Nat.le_trans (cn_up_le hcd j) (h j)) (fun _ _ h => h) D 0 (fun _ => Nat.le_refl _) i hi j
theorem cn_rx_r (k : Nat → Nat) (c : Nat) (s : Bool × (Nat → Nat)) : ∀ i, i ≤ 4 → ∀ d, d < i → cn_nb c d < 81 → s.2 (cn_nb c d) < 1000000 → (cn_rx k c s i).2 c ≤ s.2 (cn_nb c d) + k (cn_nb c d) := by
  intro i
  induction i with
  | zero => intro _ d hd; exact absurd hd (Nat.not_lt_zero d)
  | succ i ih =>
    intro hi d hd h1 h2
    rw [cn_rx_s]
    have m := cn_rx_le k c s i (by omega)
    by_cases q : d = i
    · subst q
      have m1 := m (cn_nb c d)
      by_cases e : cn_cd k (cn_rx k c s d).2 c d
      · rw [cn_st_t e]
        show cn_up _ c _ c ≤ _
        rw [cn_up_s]
        omega
      · rw [cn_st_f e]
        have e' : ¬ (cn_rx k c s d).2 (cn_nb c d) + k (cn_nb c d) < (cn_rx k c s d).2 c := fun z => e ⟨h1, by omega, z⟩
        omega
    · have a := ih (by omega) d (by omega) h1 h2
      by_cases e : cn_cd k (cn_rx k c s i).2 c i
      · rw [cn_st_t e]
        exact Nat.le_trans (cn_up_le e c) a
      · rw [cn_st_f e]
        exact a
theorem cn_sw_r (B : Nat → Int32) (k D : Nat → Nat) : ∀ i, i ≤ 81 → ∀ c, c < i → B c = 0 → ∀ d, d < 4 → cn_nb c d < 81 → D (cn_nb c d) < 1000000 → (cn_sw B k D i).2 c ≤ D (cn_nb c d) + k (cn_nb c d) := by
  intro i
  induction i with
  | zero => intro _ c hc; exact absurd hc (Nat.not_lt_zero c)
  | succ i ih =>
    intro hi c hc hB d hd h1 h2
    by_cases e : B i = 0
    · rw [cn_sw_t k D e]
      show (cn_rx k i (false, (cn_sw B k D i).2) 4).2 c ≤ _
      by_cases q : c = i
      · subst q
        have m1 := cn_sw_le B k D c (by omega) (cn_nb c d)
        have a := cn_rx_r k c (false, (cn_sw B k D c).2) 4 (Nat.le_refl 4) d hd h1 (Nat.lt_of_le_of_lt m1 h2)
        exact Nat.le_trans a (Nat.add_le_add_right m1 _)
      · have a := ih (by omega) c (by omega) hB d hd h1 h2
        exact Nat.le_trans (cn_rx_le k i (false, (cn_sw B k D i).2) 4 (Nat.le_refl 4) c) a
    · rw [cn_sw_f k D e]
      by_cases q : c = i
      · subst q; exact absurd hB e
      · exact ih (by omega) c (by omega) hB d hd h1 h2
