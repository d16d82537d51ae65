section
/-! rows of kit/rows, pasted -/
theorem pk_us {f : Nat → Int32} {k : Nat} {x : Int32} : upd f k x k = x := if_pos rfl
theorem pk_un {f : Nat → Int32} {k j : Nat} {x : Int32} (h : j ≠ k) : upd f k x j = f j := if_neg h
theorem pk_sub {a b : Nat} (h : b ≤ a) : nI a - nI b = nI (a - b) := by
  obtain ⟨c, rfl⟩ : ∃ c, a = c + b := ⟨a - b, by omega⟩
  rw [← nI_add, Int32.add_sub_cancel, Nat.add_sub_cancel]
theorem pk_mul (a b : Nat) : nI a * nI b = nI (a * b) := (Int32.ofNat_mul a b).symm
theorem pk_div {a d : Nat} (ha : a < 2 ^ 31) (h0 : 0 < d) (hd : d < 2 ^ 31) : nI a / nI d = nI (a / d) := by
  apply Int32.toInt_inj.mp
  rw [lg_idiv_nonneg (by rw [nI_toInt ha]; omega) (by rw [nI_toInt hd]; omega), nI_toInt ha, nI_toInt hd, nI_toInt (Nat.lt_of_le_of_lt (Nat.div_le_self a d) ha)]
  first | rfl | exact (Int.natCast_ediv _ _).symm
theorem pk_rem {a d : Nat} (ha : a < 2 ^ 31) (h0 : 0 < d) (hd : d < 2 ^ 31) : nI a - nI a / nI d * nI d = nI (a % d) := by
  rw [pk_div ha h0 hd, pk_mul, pk_sub (Nat.div_mul_le_self a d)]
  exact congrArg nI (by have := Nat.div_add_mod' a d; omega)
theorem pk_sub_toInt {a b : Nat} (ha : a < 2 ^ 30) (hb : b < 2 ^ 30) : (nI a - nI b).toInt = (a : Int) - b := by
  rw [Int32.toInt_sub, nI_toInt (by omega), nI_toInt (by omega)]
  exact Int.bmod_eq_of_le (by omega) (by omega)
theorem pk_sneg {a b : Nat} (hb : b < 2 ^ 30) (h : a < b) : nI a - nI b < 0 := by
  rw [Int32.lt_iff_toInt_lt, pk_sub_toInt (by omega) hb, show (0 : Int32).toInt = 0 from by decide]
  omega
theorem pk_ix (x : Int32) {n : Nat} (hn : n < 2 ^ 31) : x < 0 ∨ nI n ≤ x ∨ ∃ j : Nat, j < n ∧ x = nI j := by
  by_cases h : x < 0
  · exact Or.inl h
  · obtain ⟨j, hj, rfl⟩ := nI_of h
    by_cases h2 : j < n
    · exact Or.inr (Or.inr ⟨j, h2, rfl⟩)
    · exact Or.inr (Or.inl (nI_le (by omega) hj))
theorem pk_le {x y : Int32} {A B : Prop} (a b : Nat) (f : a ≤ b → A) (g : b < a → B) (hx : x = nI a := by rfl) (hy : y = nI b := by rfl) (ha : a < 2 ^ 31 := by omega) (hb : b < 2 ^ 31 := by omega) : (x ≤ y → A) ∧ (¬ x ≤ y → B) := by
  subst hx hy
  rw [nI_leI ha hb]
  exact ⟨f, fun z => g (by omega)⟩
theorem pk_lt {x y : Int32} {A B : Prop} (a b : Nat) (f : a < b → A) (g : b ≤ a → B) (hx : x = nI a := by rfl) (hy : y = nI b := by rfl) (ha : a < 2 ^ 31 := by omega) (hb : b < 2 ^ 31 := by omega) : (x < y → A) ∧ (¬ x < y → B) := by
  subst hx hy
  rw [nI_ltI ha hb]
  exact ⟨f, fun z => g (by omega)⟩
theorem pk_eq {x y : Int32} {A B : Prop} (a b : Nat) (f : a = b → A) (g : a ≠ b → B) (hx : x = nI a := by rfl) (hy : y = nI b := by rfl) (ha : a < 2 ^ 31 := by omega) (hb : b < 2 ^ 31 := by omega) : (x = y → A) ∧ (¬ x = y → B) := by
  subst hx hy
  rw [nI_eq ha hb]
  exact ⟨f, g⟩
theorem pk_in {x : Int32} (n N : Nat) (h : n < N) (hx : x = nI n := by rfl) (hN : N < 2 ^ 31 := by omega) : vp_in x N := by
  subst hx
  exact vp_in_nI h hN
theorem pk_cl {x : Int32} (n : Nat) (hx : x = nI n := by rfl) (h : n < 2 ^ 31 := by omega) : x.toNatClampNeg = n := by
  subst hx
  exact nI_clamp h
theorem pk_loop {σ : Type} (W : Nat → Nat → σ → Prop) (I : Nat → σ → Prop) (e i0 : Nat) (s : σ) (hi : i0 ≤ e) (h0 : I i0 s) (hx : ∀ n s, I e s → W (n + 1) e s)
    (hs : ∀ n i s, i < e → I i s → (∀ s', I (i + 1) s' → W n (i + 1) s') → W (n + 1) i s) : ∃ n, W n i0 s :=
  ⟨e + 1, loop_i W I e hx hs (e + 1) i0 s hi (by omega) h0⟩
theorem pk_least (P : Nat → Prop) (h : ∃ k, P k) : ∃ k, P k ∧ ∀ j, j < k → ¬ P j := by
  obtain ⟨k, hk⟩ := h
  induction k using Nat.strongRecOn with
  | ind k ih =>
    by_cases e : ∃ j, j < k ∧ P j
    · obtain ⟨j, hj, pj⟩ := e
      exact ih j hj pj
    · exact ⟨k, hk, fun j hj pj => e ⟨j, hj, pj⟩⟩
theorem sb_negT {w : Nat} (h : w < 2 ^ 31) : (-nI w).toInt = -(w : Int) := by
  rw [Int32.toInt_neg, nI_toInt h]
  exact Int.bmod_eq_of_le (by omega) (by omega)
theorem sb_nle {a b : Nat} (ha : a < 2 ^ 31) (hb : b < 2 ^ 31) : -nI a ≤ -nI b ↔ b ≤ a := by
  rw [Int32.le_iff_toInt_le, sb_negT ha, sb_negT hb]
  omega
theorem sb_nlt {a b : Nat} (ha : a < 2 ^ 31) (hb : b < 2 ^ 31) : -nI a < -nI b ↔ b < a := by
  rw [Int32.lt_iff_toInt_lt, sb_negT ha, sb_negT hb]
  omega
end
section
/-! the pure picture: neighbours, one relaxation, a sweep, the rounds -/
def cn_nb (c d : Nat) : Nat := if d = 0 then (if c < 9 then 81 else c - 9) else if d = 1 then (if c % 9 = 8 then 81 else c + 1) else if d = 2 then (if 71 < c then 81 else c + 9) else (if c % 9 = 0 then 81 else c - 1)
abbrev cn_cd (k D : Nat → Nat) (c d : Nat) : Prop := cn_nb c d < 81 ∧ D (cn_nb c d) < 1000000 ∧ D (cn_nb c d) + k (cn_nb c d) < D c
def cn_up (D : Nat → Nat) (c w : Nat) : Nat → Nat := fun j => if j = c then w else D j
def cn_st (k : Nat → Nat) (c d : Nat) (s : Bool × (Nat → Nat)) : Bool × (Nat → Nat) := if cn_cd k s.2 c d then (true, cn_up s.2 c (s.2 (cn_nb c d) + k (cn_nb c d))) else s
def cn_rx (k : Nat → Nat) (c : Nat) (s : Bool × (Nat → Nat)) : Nat → Bool × (Nat → Nat)
  | 0 => s
  | i + 1 => cn_st k c i (cn_rx k c s i)
def cn_sw (B : Nat → Int32) (k D : Nat → Nat) : Nat → Bool × (Nat → Nat)
  | 0 => (false, D)
  | i + 1 => if B i = 0 then ((cn_sw B k D i).1 || (cn_rx k i (false, (cn_sw B k D i).2) 4).1, (cn_rx k i (false, (cn_sw B k D i).2) 4).2) else cn_sw B k D i
def cn_rn (B : Nat → Int32) (k D : Nat → Nat) : Nat → Bool × (Nat → Nat)
  | 0 => (true, D)
  | n + 1 => if (cn_rn B k D n).1 = true then cn_sw B k (cn_rn B k D n).2 81 else cn_rn B k D n
theorem cn_up_s (D : Nat → Nat) (c w : Nat) : cn_up D c w c = w := if_pos rfl
theorem cn_up_n (D : Nat → Nat) (c w : Nat) {j : Nat} (h : j ≠ c) : cn_up D c w j = D j := if_neg h
theorem cn_st_t {k : Nat → Nat} {c d : Nat} {s : Bool × (Nat → Nat)} (h : cn_cd k s.2 c d) : cn_st k c d s = (true, cn_up s.2 c (s.2 (cn_nb c d) + k (cn_nb c d))) := if_pos h
theorem cn_st_f {k : Nat → Nat} {c d : Nat} {s : Bool × (Nat → Nat)} (h : ¬ cn_cd k s.2 c d) : cn_st k c d s = s := if_neg h
theorem cn_rx_s (k : Nat → Nat) (c : Nat) (s : Bool × (Nat → Nat)) (i : Nat) : cn_rx k c s (i + 1) = cn_st k c i (cn_rx k c s i) := rfl
theorem cn_sw_t {B : Nat → Int32} (k D : Nat → Nat) {i : Nat} (h : B i = 0) : cn_sw B k D (i + 1) = ((cn_sw B k D i).1 || (cn_rx k i (false, (cn_sw B k D i).2) 4).1, (cn_rx k i (false, (cn_sw B k D i).2) 4).2) := if_pos h
theorem cn_sw_f {B : Nat → Int32} (k D : Nat → Nat) {i : Nat} (h : ¬ B i = 0) : cn_sw B k D (i + 1) = cn_sw B k D i := if_neg h
theorem cn_rn_t {B : Nat → Int32} {k D : Nat → Nat} {n : Nat} (h : (cn_rn B k D n).1 = true) : cn_rn B k D (n + 1) = cn_sw B k (cn_rn B k D n).2 81 := if_pos h
theorem cn_rn_f {B : Nat → Int32} {k D : Nat → Nat} {n : Nat} (h : ¬ (cn_rn B k D n).1 = true) : cn_rn B k D (n + 1) = cn_rn B k D n := if_neg h
/-! what each relaxation keeps, a sweep keeps, and the rounds keep -/
theorem cn_ind_rx (k : Nat → Nat) (c : Nat) (P : Nat → (Nat → Nat) → Prop)
    (hs : ∀ b D d, d < 4 → cn_cd k D c d → P b D → P (b + 1) (cn_up D c (D (cn_nb c d) + k (cn_nb c d)))) (hw : ∀ b D, P b D → P (b + 1) D)
    (s : Bool × (Nat → Nat)) (b : Nat) (h : P b s.2) : ∀ i, i ≤ 4 → P (b + i) (cn_rx k c s i).2 := by
  intro i
  induction i with
  | zero => intro _; exact h
  | succ i ih =>
    intro hi
    have h1 := ih (by omega)
    rw [cn_rx_s]
    by_cases e : cn_cd k (cn_rx k c s i).2 c i
    · rw [cn_st_t e]
      exact hs (b + i) _ i (by omega) e h1
    · rw [cn_st_f e]
      exact hw (b + i) _ h1
theorem cn_ind_sw (B : Nat → Int32) (k : Nat → Nat) (P : Nat → (Nat → Nat) → Prop)
    (hs : ∀ b D c d, c < 81 → B c = 0 → d < 4 → cn_cd k D c d → P b D → P (b + 1) (cn_up D c (D (cn_nb c d) + k (cn_nb c d)))) (hw : ∀ b D, P b D → P (b + 1) D)
    (D : Nat → Nat) (b : Nat) (h : P b D) : ∀ i, i ≤ 81 → P (b + 4 * i) (cn_sw B k D i).2 := by
  intro i
  induction i with
  | zero => intro _; exact h
  | succ i ih =>
    intro hi
    have h1 := ih (by omega)
    by_cases e : B i = 0
    · rw [cn_sw_t k D e]
      exact cn_ind_rx k i P (fun b D d => hs b D i d (by omega) e) hw (false, (cn_sw B k D i).2) (b + 4 * i) h1 4 (Nat.le_refl 4)
    · rw [cn_sw_f k D e]
      exact hw _ _ (hw _ _ (hw _ _ (hw _ _ h1)))
theorem cn_ind_rn (B : Nat → Int32) (k : Nat → Nat) (P : Nat → (Nat → Nat) → Prop)
    (hs : ∀ b D c d, c < 81 → B c = 0 → d < 4 → cn_cd k D c d → P b D → P (b + 1) (cn_up D c (D (cn_nb c d) + k (cn_nb c d)))) (hw : ∀ b D, P b D → P (b + 1) D)
    (D : Nat → Nat) (b : Nat) (h : P b D) : ∀ n, P (b + 324 * n) (cn_rn B k D n).2 := by
  have hm : ∀ m b D, P b D → P (b + m) D := by
    intro m
    induction m with
    | zero => intro b D h; exact h
    | succ m ih => intro b D h; exact hw _ _ (ih b D h)
  intro n
  induction n with
  | zero => exact h
  | succ n ih =>
    by_cases e : (cn_rn B k D n).1 = true
    · rw [cn_rn_t e]
      exact cn_ind_sw B k P hs hw (cn_rn B k D n).2 (b + 324 * n) ih 81 (Nat.le_refl 81)
    · rw [cn_rn_f e]
      exact hm 324 _ _ ih
/-! bounds: no sum leaves the ints, blocked cells are never reached -/
def cn_Iv (B : Nat → Int32) (b : Nat) (D : Nat → Nat) : Prop := (∀ j, j < 81 → D j ≤ 37 * b ∨ D j = 1000000) ∧ (∀ j, j < 81 → ¬ B j = 0 → D j = 1000000)
theorem cn_Iv_s {B : Nat → Int32} {k : Nat → Nat} (hk : ∀ j, 1 ≤ k j ∧ k j ≤ 37) (b : Nat) (D : Nat → Nat) (c d : Nat) (hc : B c = 0) (h : cn_cd k D c d) (I : cn_Iv B b D) : cn_Iv B (b + 1) (cn_up D c (D (cn_nb c d) + k (cn_nb c d))) := by
  obtain ⟨h1, h2, h3⟩ := h
  have a := I.1 _ h1
  have k1 := hk (cn_nb c d)
  refine ⟨fun j hj => ?_, fun j hj hB => ?_⟩
  · by_cases e : j = c
    · subst e; rw [cn_up_s]; omega
    · rw [cn_up_n D c _ e]
      have := I.1 j hj
      omega
  · by_cases e : j = c
    · subst e; exact absurd hc hB
    · rw [cn_up_n D c _ e]; exact I.2 j hj hB
theorem cn_Iv_w {B : Nat → Int32} (b : Nat) (D : Nat → Nat) (I : cn_Iv B b D) : cn_Iv B (b + 1) D := ⟨fun j hj => by have := I.1 j hj; omega, I.2⟩
/-! a fixed point -/
def cn_fx (B : Nat → Int32) (k D : Nat → Nat) : Prop := ∀ c, c < 81 → B c = 0 → ∀ d, d < 4 → ¬ cn_cd k D c d
theorem cn_rx_fx {k D : Nat → Nat} {c : Nat} (h : ∀ d, d < 4 → ¬ cn_cd k D c d) (f : Bool) : ∀ i, i ≤ 4 → cn_rx k c (f, D) i = (f, D) := by
  intro i
  induction i with
  | zero => intro _; rfl
  | succ i ih =>
    intro hi
    rw [cn_rx_s, ih (by omega)]
    exact cn_st_f (h i (by omega))
theorem cn_sw_fx {B : Nat → Int32} {k D : Nat → Nat} (h : cn_fx B k D) : ∀ i, i ≤ 81 → cn_sw B k D i = (false, D) := by
  intro i
  induction i with
  | zero => intro _; rfl
  | succ i ih =>
    intro hi
    by_cases e : B i = 0
    · rw [cn_sw_t k D e, ih (by omega), cn_rx_fx (h i (by omega) e) false 4 (Nat.le_refl 4)]
      rfl
    · rw [cn_sw_f k D e, ih (by omega)]
theorem cn_rx_fl {k D : Nat → Nat} {c : Nat} : ∀ i, (cn_rx k c (false, D) i).1 = false → (cn_rx k c (false, D) i).2 = D ∧ ∀ d, d < i → ¬ cn_cd k D c d := by
  intro i
  induction i with
  | zero => intro _; exact ⟨rfl, fun d hd => absurd hd (Nat.not_lt_zero d)⟩
  | succ i ih =>
    intro h
    rw [cn_rx_s] at h ⊢
    by_cases e : cn_cd k (cn_rx k c (false, D) i).2 c i
    · rw [cn_st_t e] at h
      exact Bool.noConfusion (show true = false from h)
    · rw [cn_st_f e] at h ⊢
      obtain ⟨a, b⟩ := ih h
      refine ⟨a, fun d hd => ?_⟩
      by_cases q : d = i
      · subst q; rw [a] at e; exact e
      · exact b d (by omega)
theorem cn_sw_fl {B : Nat → Int32} {k D : Nat → Nat} : ∀ i, (cn_sw B k D i).1 = false → (cn_sw B k D i).2 = D ∧ ∀ c, c < i → B c = 0 → ∀ d, d < 4 → ¬ cn_cd k D c d := by
  intro i
  induction i with
  | zero => intro _; exact ⟨rfl, fun d hd => absurd hd (Nat.not_lt_zero d)⟩
  | succ i ih =>
    intro h
    by_cases e : B i = 0
    · rw [cn_sw_t k D e] at h ⊢
      have h' : ((cn_sw B k D i).1 || (cn_rx k i (false, (cn_sw B k D i).2) 4).1) = false := h
      rw [Bool.or_eq_false_iff] at h'
      obtain ⟨a, b⟩ := ih h'.1
      have h2 := h'.2
      obtain ⟨a2, b2⟩ := cn_rx_fl 4 h2
      rw [a] at b2
      refine ⟨a2.trans a, fun c hc hB d hd => ?_⟩
      by_cases q : c = i
      · subst q; exact b2 d hd
      · exact b c (by omega) hB d hd
    · rw [cn_sw_f k D e] at h ⊢
      obtain ⟨a, b⟩ := ih h
      refine ⟨a, fun c hc hB d hd => ?_⟩
      by_cases q : c = i
      · subst q; exact absurd hB e
      · exact b c (by omega) hB d hd
theorem cn_rn_fl {B : Nat → Int32} {k D : Nat → Nat} : ∀ n, (cn_rn B k D n).1 = false → cn_fx B k (cn_rn B k D n).2 := by
  intro n
  induction n with
  | zero => intro h; exact Bool.noConfusion (show true = false from h)
  | succ n ih =>
    intro h
    by_cases e : (cn_rn B k D n).1 = true
    · rw [cn_rn_t e] at h ⊢
      obtain ⟨a, b⟩ := cn_sw_fl 81 h
      rw [a]
      exact b
    · rw [cn_rn_f e] at h ⊢
      exact ih h
theorem cn_rn_stay {B : Nat → Int32} {k D : Nat → Nat} {n : Nat} (h : (cn_rn B k D n).1 = false) : ∀ m, cn_rn B k D (n + m) = cn_rn B k D n := by
  intro m
  induction m with
  | zero => rfl
  | succ m ih =>
    rw [← Nat.add_assoc, cn_rn_f (by rw [ih, h]; decide), ih]
theorem cn_rn_fx {B : Nat → Int32} {k D : Nat → Nat} (h : cn_fx B k D) : ∀ n, (cn_rn B k D n).2 = D := by
  intro n
  induction n with
  | zero => rfl
  | succ n ih =>
    by_cases e : (cn_rn B k D n).1 = true
    · rw [cn_rn_t e, ih, cn_sw_fx h 81 (Nat.le_refl 81)]
    · rw [cn_rn_f e, ih]
/-! a sweep relaxes every edge at least as well as from its start -/
theorem cn_up_le {k D : Nat → Nat} {c d : Nat} (h : cn_cd k D c d) (j : Nat) : cn_up D c (D (cn_nb c d) + k (cn_nb c d)) j ≤ D j := by
  by_cases e : j = c
  · subst e; rw [cn_up_s]; exact Nat.le_of_lt h.2.2
  · rw [cn_up_n D c _ e]; exact Nat.le_refl _
theorem cn_rx_le (k : Nat → Nat) (c : Nat) (s : Bool × (Nat → Nat)) (i : Nat) (hi : i ≤ 4) (j : Nat) : (cn_rx k c s i).2 j ≤ s.2 j :=
  cn_ind_rx k c (fun _ D => ∀ j, D j ≤ s.2 j) (fun _ D d _ hcd h j => Nat.le_trans (cn_up_le hcd j) (h j)) (fun _ _ h => h) s 0 (fun _ => Nat.le_refl _) i hi j
theorem cn_sw_le (B : Nat → Int32) (k D : Nat → Nat) (i : Nat) (hi : i ≤ 81) (j : Nat) : (cn_sw B k D i).2 j ≤ D j :=
  cn_ind_sw B k (fun _ D' => ∀ j, D' j ≤ D j) (fun _ D' c d _ _ _ hcd h j => Nat.le_trans (cn_up_le hcd j) (h j)) (fun _ _ h => h) D 0 (fun _ => Nat.le_refl _) i hi j
theorem cn_rx_r (k : Nat → Nat) (c : Nat) (s : Bool × (Nat → Nat)) : ∀ i, i ≤ 4 → ∀ d, d < i → cn_nb c d < 81 → s.2 (cn_nb c d) < 1000000 → (cn_rx k c s i).2 c ≤ s.2 (cn_nb c d) + k (cn_nb c d) := by
  intro i
  induction i with
  | zero => intro _ d hd; exact absurd hd (Nat.not_lt_zero d)
  | succ i ih =>
    intro hi d hd h1 h2
    rw [cn_rx_s]
    have m := cn_rx_le k c s i (by omega)
    by_cases q : d = i
    · subst q
      have m1 := m (cn_nb c d)
      by_cases e : cn_cd k (cn_rx k c s d).2 c d
      · rw [cn_st_t e]
        show cn_up _ c _ c ≤ _
        rw [cn_up_s]
        omega
      · rw [cn_st_f e]
        have e' : ¬ (cn_rx k c s d).2 (cn_nb c d) + k (cn_nb c d) < (cn_rx k c s d).2 c := fun z => e ⟨h1, by omega, z⟩
        omega
    · have a := ih (by omega) d (by omega) h1 h2
      by_cases e : cn_cd k (cn_rx k c s i).2 c i
      · rw [cn_st_t e]
        exact Nat.le_trans (cn_up_le e c) a
      · rw [cn_st_f e]
        exact a
theorem cn_sw_r (B : Nat → Int32) (k D : Nat → Nat) : ∀ i, i ≤ 81 → ∀ c, c < i → B c = 0 → ∀ d, d < 4 → cn_nb c d < 81 → D (cn_nb c d) < 1000000 → (cn_sw B k D i).2 c ≤ D (cn_nb c d) + k (cn_nb c d) := by
  intro i
  induction i with
  | zero => intro _ c hc; exact absurd hc (Nat.not_lt_zero c)
  | succ i ih =>
    intro hi c hc hB d hd h1 h2
    by_cases e : B i = 0
    · rw [cn_sw_t k D e]
      show (cn_rx k i (false, (cn_sw B k D i).2) 4).2 c ≤ _
      by_cases q : c = i
      · subst q
        have m1 := cn_sw_le B k D c (by omega) (cn_nb c d)
        have a := cn_rx_r k c (false, (cn_sw B k D c).2) 4 (Nat.le_refl 4) d hd h1 (Nat.lt_of_le_of_lt m1 h2)
        exact Nat.le_trans a (Nat.add_le_add_right m1 _)
      · have a := ih (by omega) c (by omega) hB d hd h1 h2
        exact Nat.le_trans (cn_rx_le k i (false, (cn_sw B k D i).2) 4 (Nat.le_refl 4) c) a
    · rw [cn_sw_f k D e]
      by_cases q : c = i
      · subst q; exact absurd hB e
      · exact ih (by omega) c (by omega) hB d hd h1 h2
end
section
/-! the rounds end: each sweep that changes something settles one cell more -/
def cn_Q (B : Nat → Int32) (k : Nat → Nat) (v : Nat) (D : Nat → Nat) : Prop := ∀ c, c < 81 → B c = 0 → ∀ d, d < 4 → cn_cd k D c d → v ≤ D (cn_nb c d) + k (cn_nb c d)
theorem cn_Q_s {B : Nat → Int32} {k : Nat → Nat} (hk : ∀ j, 1 ≤ k j ∧ k j ≤ 37) {v : Nat} {D : Nat → Nat} {c d : Nat} (hc : c < 81) (hB : B c = 0) (hd : d < 4) (h : cn_cd k D c d) (Q : cn_Q B k v D) : cn_Q B k v (cn_up D c (D (cn_nb c d) + k (cn_nb c d))) := by
  have w := Q c hc hB d hd h
  intro c2 hc2 hB2 d2 hd2 h2
  obtain ⟨a1, a2, a3⟩ := h2
  by_cases e1 : cn_nb c2 d2 = c
  · rw [e1, cn_up_s]
    omega
  · rw [cn_up_n D c _ e1] at a2 a3 ⊢
    by_cases e2 : c2 = c
    · subst e2
      rw [cn_up_s] at a3
      exact Q c2 hc2 hB2 d2 hd2 ⟨a1, a2, Nat.lt_trans a3 h.2.2⟩
    · rw [cn_up_n D c _ e2] at a3
      exact Q c2 hc2 hB2 d2 hd2 ⟨a1, a2, a3⟩
def cn_S (B : Nat → Int32) (k : Nat → Nat) (v : Nat) (D D' : Nat → Nat) : Prop := cn_Q B k v D' ∧ ∀ j, (D j ≤ v → D' j = D j) ∧ (v < D j → v ≤ D' j)
theorem cn_sw_S {B : Nat → Int32} {k : Nat → Nat} (hk : ∀ j, 1 ≤ k j ∧ k j ≤ 37) {v : Nat} {D : Nat → Nat} (Q : cn_Q B k v D) : cn_S B k v D (cn_sw B k D 81).2 := by
  refine cn_ind_sw B k (fun _ D' => cn_S B k v D D') (fun _ D' c d hc hB hd hcd hS => ?_) (fun _ _ h => h) D 0 ⟨Q, fun j => ⟨fun _ => rfl, fun h => Nat.le_of_lt h⟩⟩ 81 (Nat.le_refl 81)
  have w := hS.1 c hc hB d hd hcd
  refine ⟨cn_Q_s hk hc hB hd hcd hS.1, fun j => ?_⟩
  have sj := hS.2 j
  by_cases e : j = c
  · subst e
    rw [cn_up_s]
    have z := hcd.2.2
    refine ⟨fun hj => ?_, fun _ => w⟩
    have := sj.1 hj
    omega
  · rw [cn_up_n D' c _ e]
    exact sj
theorem cn_sw_Q {B : Nat → Int32} {k : Nat → Nat} (hk : ∀ j, 1 ≤ k j ∧ k j ≤ 37) {v : Nat} {D : Nat → Nat} (Q : cn_Q B k v D) : cn_Q B k (v + 1) (cn_sw B k D 81).2 := by
  have S := cn_sw_S hk Q
  intro c hc hB d hd h
  have w := S.1 c hc hB d hd h
  have k1 := hk (cn_nb c d)
  obtain ⟨a1, a2, a3⟩ := h
  by_cases e : (cn_sw B k D 81).2 (cn_nb c d) + k (cn_nb c d) = v
  · exfalso
    have s1 := S.2 (cn_nb c d)
    have q : D (cn_nb c d) = (cn_sw B k D 81).2 (cn_nb c d) := by
      by_cases z : D (cn_nb c d) ≤ v
      · exact (s1.1 z).symm
      · have := s1.2 (by omega)
        omega
    have r := cn_sw_r B k D 81 (Nat.le_refl 81) c hc hB d hd a1 (by omega)
    omega
  · omega
/-! counting the settled cells -/
def cn_ct (D : Nat → Nat) (t : Nat) : Nat → Nat
  | 0 => 0
  | n + 1 => cn_ct D t n + (if D n < t then 1 else 0)
theorem cn_ct_s (D : Nat → Nat) (t n : Nat) : cn_ct D t (n + 1) = cn_ct D t n + (if D n < t then 1 else 0) := rfl
theorem cn_ct_le (D : Nat → Nat) (t : Nat) : ∀ n, cn_ct D t n ≤ n := by
  intro n
  induction n with
  | zero => exact Nat.le_refl 0
  | succ n ih => rw [cn_ct_s]; split <;> omega
theorem cn_ct_all (D : Nat → Nat) (t : Nat) : ∀ n, n ≤ cn_ct D t n → ∀ j, j < n → D j < t := by
  intro n
  induction n with
  | zero => intro _ j hj; exact absurd hj (Nat.not_lt_zero j)
  | succ n ih =>
    intro h j hj
    rw [cn_ct_s] at h
    have a := cn_ct_le D t n
    by_cases e : D n < t
    · rw [if_pos e] at h
      by_cases q : j = n
      · subst q; exact e
      · exact ih (by omega) j (by omega)
    · rw [if_neg e] at h
      omega
theorem cn_ct_mono (D D' : Nat → Nat) (t t' : Nat) : ∀ n, (∀ j, j < n → D j < t → D' j < t') → cn_ct D t n ≤ cn_ct D' t' n := by
  intro n
  induction n with
  | zero => intro _; exact Nat.le_refl 0
  | succ n ih =>
    intro h
    have a := ih (fun j hj => h j (by omega))
    rw [cn_ct_s, cn_ct_s]
    by_cases e : D n < t
    · rw [if_pos e, if_pos (h n (by omega) e)]; omega
    · rw [if_neg e]; omega
theorem cn_ct_lt (D D' : Nat → Nat) (t t' c : Nat) (h1 : ¬ D c < t) (h2 : D' c < t') : ∀ n, c < n → (∀ j, j < n → D j < t → D' j < t') → cn_ct D t n + 1 ≤ cn_ct D' t' n := by
  intro n
  induction n with
  | zero => intro hc; exact absurd hc (Nat.not_lt_zero c)
  | succ n ih =>
    intro hc h
    rw [cn_ct_s, cn_ct_s]
    by_cases q : c = n
    · subst q
      have a := cn_ct_mono D D' t t' c (fun j hj => h j (by omega))
      rw [if_neg h1, if_pos h2]; omega
    · have a := ih (by omega) (fun j hj => h j (by omega))
      by_cases e : D n < t
      · rw [if_pos e, if_pos (h n (by omega) e)]; omega
      · rw [if_neg e]; omega
theorem cn_grow {B : Nat → Int32} {k : Nat → Nat} (hk : ∀ j, 1 ≤ k j ∧ k j ≤ 37) {t n : Nat} {D : Nat → Nat} (Q : cn_Q B k t D) (hn : n ≤ cn_ct D t 81) (hf : ¬ cn_fx B k D) : ∃ t', cn_Q B k t' (cn_sw B k D 81).2 ∧ n + 1 ≤ cn_ct (cn_sw B k D 81).2 t' 81 := by
  have ex : ∃ v, ∃ c, c < 81 ∧ B c = 0 ∧ ∃ d, d < 4 ∧ cn_cd k D c d ∧ v = D (cn_nb c d) + k (cn_nb c d) := by
    refine Classical.byContradiction (fun z => hf (fun c hc hB d hd h => z ⟨_, c, hc, hB, d, hd, h, rfl⟩))
  obtain ⟨v, ⟨c, hc, hB, d, hd, hcd, hv⟩, hl⟩ := pk_least _ ex
  have Qv : cn_Q B k v D := by
    intro c2 hc2 hB2 d2 hd2 h2
    exact Nat.le_of_not_lt (fun z => hl _ z ⟨c2, hc2, hB2, d2, hd2, h2, rfl⟩)
  have tv : t ≤ v := by rw [hv]; exact Q c hc hB d hd hcd
  have S := cn_sw_S hk Qv
  have r := cn_sw_r B k D 81 (Nat.le_refl 81) c hc hB d hd hcd.1 hcd.2.1
  have z := hcd.2.2
  refine ⟨v + 1, cn_sw_Q hk Qv, Nat.le_trans (Nat.add_le_add_right hn 1) (cn_ct_lt D _ t (v + 1) c (by omega) (by omega) 81 hc (fun j _ hj => ?_))⟩
  have := (S.2 j).1 (by omega)
  omega
theorem cn_conv {B : Nat → Int32} {k : Nat → Nat} (hk : ∀ j, 1 ≤ k j ∧ k j ≤ 37) (D : Nat → Nat) : ∀ n, cn_fx B k (cn_rn B k D n).2 ∨ ∃ t, cn_Q B k t (cn_rn B k D n).2 ∧ n ≤ cn_ct (cn_rn B k D n).2 t 81 := by
  intro n
  induction n with
  | zero => exact Or.inr ⟨0, fun _ _ _ _ _ _ => Nat.zero_le _, Nat.zero_le _⟩
  | succ n ih =>
    by_cases f : cn_fx B k (cn_rn B k D n).2
    · left
      by_cases e : (cn_rn B k D n).1 = true
      · rw [cn_rn_t e, cn_sw_fx f 81 (Nat.le_refl 81)]
        exact f
      · rw [cn_rn_f e]
        exact f
    · right
      have e : (cn_rn B k D n).1 = true := by
        cases h : (cn_rn B k D n).1 with
        | true => rfl
        | false => exact absurd (cn_rn_fl n h) f
      rw [cn_rn_t e]
      cases ih with
      | inl z => exact absurd z f
      | inr z =>
        obtain ⟨t, Q, hn⟩ := z
        exact cn_grow hk Q hn f
theorem cn_final {B : Nat → Int32} {k : Nat → Nat} (hk : ∀ j, 1 ≤ k j ∧ k j ≤ 37) (D : Nat → Nat) : cn_fx B k (cn_rn B k D 81).2 := by
  cases cn_conv (B := B) hk D 81 with
  | inl h => exact h
  | inr h =>
    obtain ⟨t, Q, hn⟩ := h
    have a := cn_ct_all _ _ _ hn
    intro c hc hB d hd hcd
    have w := Q c hc hB d hd hcd
    have z := hcd.2.2
    have := a c hc
    omega
/-! every reached cell but the goal has a neighbour through which its price is had -/
def cn_Su (k : Nat → Nat) (g : Nat) (D : Nat → Nat) : Prop := ∀ c, c < 81 → c ≠ g → D c < 1000000 → ∃ d, d < 4 ∧ cn_nb c d < 81 ∧ D (cn_nb c d) < 1000000 ∧ D (cn_nb c d) + k (cn_nb c d) ≤ D c
theorem cn_Su_s {k : Nat → Nat} (hk : ∀ j, 1 ≤ k j ∧ k j ≤ 37) {g : Nat} {D : Nat → Nat} {c d : Nat} (hd : d < 4) (h : cn_cd k D c d) (hS : cn_Su k g D) : cn_Su k g (cn_up D c (D (cn_nb c d) + k (cn_nb c d))) := by
  obtain ⟨h1, h2, h3⟩ := h
  have ne : cn_nb c d ≠ c := by intro e; rw [e] at h3; omega
  intro c2 hc2 hg hlt
  by_cases e : c2 = c
  · subst e
    refine ⟨d, hd, h1, ?_, ?_⟩
    · rw [cn_up_n D c2 _ ne]; exact h2
    · rw [cn_up_n D c2 _ ne, cn_up_s]; exact Nat.le_refl _
  · rw [cn_up_n D c _ e] at hlt ⊢
    obtain ⟨d2, hd2, a1, a2, a3⟩ := hS c2 hc2 hg hlt
    refine ⟨d2, hd2, a1, ?_, ?_⟩
    · exact Nat.lt_of_le_of_lt (cn_up_le ⟨h1, h2, h3⟩ _) a2
    · exact Nat.le_trans (Nat.add_le_add_right (cn_up_le ⟨h1, h2, h3⟩ _) _) a3
/-! the start, and what holds at the end -/
def cn_D0 (B : Nat → Int32) (g : Nat) : Nat → Nat := fun j => if j = g ∧ B j = 0 then 0 else 1000000
theorem cn_D0_Iv (B : Nat → Int32) (g : Nat) : cn_Iv B 0 (cn_D0 B g) := by
  refine ⟨fun j _ => ?_, fun j _ h => if_neg (fun z => h z.2)⟩
  by_cases e : j = g ∧ B j = 0
  · left; rw [show cn_D0 B g j = 0 from if_pos e]; exact Nat.zero_le _
  · right; exact if_neg e
theorem cn_D0_Su (B : Nat → Int32) (k : Nat → Nat) (g : Nat) : cn_Su k g (cn_D0 B g) := by
  intro c _ hg h
  rw [show cn_D0 B g c = 1000000 from if_neg (fun z => hg z.1)] at h
  exact absurd h (by decide)
theorem cn_rn_Iv {B : Nat → Int32} {k : Nat → Nat} (hk : ∀ j, 1 ≤ k j ∧ k j ≤ 37) (g n : Nat) : cn_Iv B (324 * n) (cn_rn B k (cn_D0 B g) n).2 := by
  have := cn_ind_rn B k (fun b D => cn_Iv B b D) (fun b D c d _ hB _ hcd I => cn_Iv_s hk b D c d hB hcd I) (fun b D I => cn_Iv_w b D I) (cn_D0 B g) 0 (cn_D0_Iv B g) n
  rw [Nat.zero_add] at this
  exact this
theorem cn_rn_Su {B : Nat → Int32} {k : Nat → Nat} (hk : ∀ j, 1 ≤ k j ∧ k j ≤ 37) (g n : Nat) : cn_Su k g (cn_rn B k (cn_D0 B g) n).2 :=
  cn_ind_rn B k (fun _ D => cn_Su k g D) (fun _ D c d _ _ hd hcd I => cn_Su_s hk hd hcd I) (fun _ _ I => I) (cn_D0 B g) 0 (cn_D0_Su B k g) n
/-- what the two sides' later walks need of the distances -/
def cn_Ok (B : Nat → Int32) (k : Nat → Nat) (g : Nat) (D : Nat → Nat) : Prop :=
  (∀ j, j < 81 → D j ≤ 1000000) ∧ (∀ j, j < 81 → ¬ B j = 0 → D j = 1000000) ∧
  (∀ c, c < 81 → c ≠ g → D c < 1000000 → ∃ d, d < 4 ∧ cn_nb c d < 81 ∧ D (cn_nb c d) < 1000000 ∧ D (cn_nb c d) + k (cn_nb c d) = D c)
theorem cn_ok {B : Nat → Int32} {k : Nat → Nat} (hk : ∀ j, 1 ≤ k j ∧ k j ≤ 37) (g : Nat) : cn_Ok B k g (cn_rn B k (cn_D0 B g) 81).2 := by
  have I := cn_rn_Iv (B := B) hk g 81
  have S := cn_rn_Su (B := B) hk g 81
  have F := cn_final (B := B) hk (cn_D0 B g)
  refine ⟨fun j hj => by have := I.1 j hj; omega, I.2, fun c hc hg h => ?_⟩
  obtain ⟨d, hd, a1, a2, a3⟩ := S c hc hg h
  have hB : B c = 0 := Classical.byContradiction (fun z => by have := I.2 c hc z; omega)
  have f : ¬ (cn_rn B k (cn_D0 B g) 81).2 (cn_nb c d) + k (cn_nb c d) < (cn_rn B k (cn_D0 B g) 81).2 c := fun z => F c hc hB d hd ⟨a1, a2, z⟩
  exact ⟨d, hd, a1, a2, by omega⟩
end
section
/-! numbers, cells, neighbours, spans, clearances, costs: each side's walk against the pure value -/
theorem cn_m4 {m : Nat} (h : m < 2 ^ 31) : ¬ nI m = -4 := by
  intro e
  have e2 := congrArg Int32.toInt e
  rw [nI_toInt h, show (-4 : Int32).toInt = -4 from by decide] at e2
  omega
def cn_e (x : Nat) : Int32 := if x < 81 then nI x else -4
theorem cn_e_t {x : Nat} (h : x < 81) : cn_e x = nI x := if_pos h
theorem cn_e_f {x : Nat} (h : ¬ x < 81) : cn_e x = -4 := if_neg h
theorem cn_inX {post : Int32 → Prop} {c : Nat} (hc : c < 81) (h : post 1) : wpX_inGrid post (nI c) :=
  br_f (nI_pos (by omega)) (br_f (nI_ge hc (by decide)) h)
theorem cn_inY {post : Int32 → Prop} (u : SY) {c : Nat} (hc : c < 81) (h : post 1) : wpY_isCell post u (nI c) := by
  obtain ⟨f1, f2, f3, f4, B, cy, dy⟩ := u
  exact br_f (nI_pos (by omega)) (br_f (nI_nlt (a := 80) (by omega) (by decide)) h)
theorem cn_outX {post : Int32 → Prop} {v : Int32} (hv : v < 0 ∨ nI 81 ≤ v) (h : post 0) : wpX_inGrid post v := by
  refine br_c (fun _ => h) (fun z => br_t ?_ h)
  cases hv with
  | inl a => exact absurd a z
  | inr a => exact a
theorem cn_outY {post : Int32 → Prop} (u : SY) {v : Int32} (hv : v < 0 ∨ nI 81 ≤ v) (h : post 0) : wpY_isCell post u v := by
  obtain ⟨f1, f2, f3, f4, B, cy, dy⟩ := u
  refine br_c (fun _ => h) (fun z => br_t ?_ h)
  cases hv with
  | inl a => exact absurd a z
  | inr a => exact Int32.lt_of_lt_of_le (show (80 : Int32) < nI 81 from by decide) a
theorem cn_cell (v : Int32) : (v < 0 ∨ nI 81 ≤ v) ∨ ∃ j : Nat, j < 81 ∧ v = nI j := by
  rcases pk_ix v (n := 81) (by decide) with a | a | a
  · exact Or.inl (Or.inl a)
  · exact Or.inl (Or.inr a)
  · exact Or.inr a
theorem cn_d4 {d : Nat} (h : d < 4) : d = 0 ∨ d = 1 ∨ d = 2 ∨ d = 3 := by omega
theorem cn_nb0 (c : Nat) : cn_nb c 0 = if c < 9 then 81 else c - 9 := rfl
theorem cn_nb1 (c : Nat) : cn_nb c 1 = if c % 9 = 8 then 81 else c + 1 := rfl
theorem cn_nb2 (c : Nat) : cn_nb c 2 = if 71 < c then 81 else c + 9 := rfl
theorem cn_nb3 (c : Nat) : cn_nb c 3 = if c % 9 = 0 then 81 else c - 1 := rfl
theorem cn_nbX {post : Int32 → Prop} {c d : Nat} (hc : c < 81) (hd : d < 4) (h : post (cn_e (cn_nb c d))) : wpX_neighbour post (nI c) (nI d) := by
  unfold wpX_neighbour
  refine ⟨by decide, nm_r (pk_rem (d := 9) (by omega) (by decide) (by decide)) ⟨by decide, nm_r (pk_div (d := 9) (by omega) (by decide) (by decide)) ?_⟩⟩
  rcases cn_d4 hd with rfl | rfl | rfl | rfl
  · refine br_t rfl (pk_le (c / 9) 0 (fun q => ?_) (fun q => ?_))
    · rw [cn_nb0, if_pos (by omega), cn_e_f (by decide)] at h; exact h
    · rw [cn_nb0, if_neg (by omega), cn_e_t (by omega)] at h
      rw [show nI c - 9 = nI (c - 9) from pk_sub (b := 9) (by omega)]; exact h
  · refine br_f (by decide) (br_t rfl (pk_le 8 (c % 9) (fun q => ?_) (fun q => ?_)))
    · rw [cn_nb1, if_pos (by omega), cn_e_f (by decide)] at h; exact h
    · rw [cn_nb1, if_neg (by omega), cn_e_t (by omega)] at h
      rw [nI_1]; exact h
  · refine br_f (by decide) (br_f (by decide) (br_t rfl (pk_le 8 (c / 9) (fun q => ?_) (fun q => ?_))))
    · rw [cn_nb2, if_pos (by omega), cn_e_f (by decide)] at h; exact h
    · rw [cn_nb2, if_neg (by omega), cn_e_t (by omega)] at h
      rw [show nI c + 9 = nI (c + 9) from nI_add c 9]; exact h
  · refine br_f (by decide) (br_f (by decide) (br_f (by decide) (pk_le (c % 9) 0 (fun q => ?_) (fun q => ?_))))
    · rw [cn_nb3, if_pos (by omega), cn_e_f (by decide)] at h; exact h
    · rw [cn_nb3, if_neg (by omega), cn_e_t (by omega)] at h
      rw [show nI c - 1 = nI (c - 1) from pk_sub (b := 1) (by omega)]; exact h
theorem cn_nbY {post : Int32 → Prop} (u : SY) {c d : Nat} (hc : c < 81) (hd : d < 4) (h : post (cn_e (cn_nb c d))) : wpY_neighbour post u (nI c) (nI d) := by
  obtain ⟨f1, f2, f3, f4, B, cy, dy⟩ := u
  have hr : nI c - nI c / 9 * 9 = nI (c % 9) := pk_rem (d := 9) (by omega) (by decide) (by decide)
  unfold wpY_neighbour
  dsimp only
  rw [hr]
  rcases cn_d4 hd with rfl | rfl | rfl | rfl
  · refine br_t rfl (pk_le 9 c (fun q => ?_) (fun q => ?_))
    · rw [cn_nb0, if_neg (by omega), cn_e_t (by omega)] at h
      rw [show nI c - 9 = nI (c - 9) from pk_sub (b := 9) (by omega)]; exact h
    · rw [cn_nb0, if_pos (by omega), cn_e_f (by decide)] at h; exact h
  · refine br_f (by decide) (br_t rfl ⟨by decide, pk_eq (c % 9) 8 (fun q => ?_) (fun q => ?_)⟩)
    · rw [cn_nb1, if_pos (by omega), cn_e_f (by decide)] at h; exact h
    · rw [cn_nb1, if_neg (by omega), cn_e_t (by omega)] at h
      rw [nI_1]; exact h
  · refine br_f (by decide) (br_f (by decide) (br_t rfl (pk_le c 71 (fun q => ?_) (fun q => ?_))))
    · rw [cn_nb2, if_neg (by omega), cn_e_t (by omega)] at h
      rw [show nI c + 9 = nI (c + 9) from nI_add c 9]; exact h
    · rw [cn_nb2, if_pos (by omega), cn_e_f (by decide)] at h; exact h
  · refine br_f (by decide) (br_f (by decide) (br_f (by decide) ⟨by decide, pk_eq (c % 9) 0 (fun q => ?_) (fun q => ?_)⟩))
    · rw [cn_nb3, if_pos (by omega), cn_e_f (by decide)] at h; exact h
    · rw [cn_nb3, if_neg (by omega), cn_e_t (by omega)] at h
      rw [show nI c - 1 = nI (c - 1) from pk_sub (b := 1) (by omega)]; exact h
/-! spans -/
def cn_ab (x y : Nat) : Nat := if x ≤ y then y - x else x - y
def cn_sp (a b : Nat) : Nat := if cn_ab (a % 9) (b % 9) ≤ cn_ab (a / 9) (b / 9) then cn_ab (a / 9) (b / 9) else cn_ab (a % 9) (b % 9)
theorem cn_ab_le {x y : Nat} (hx : x < 9) (hy : y < 9) : cn_ab x y < 9 := by unfold cn_ab; split <;> omega
theorem cn_sp_le {a b : Nat} (ha : a < 81) (hb : b < 81) : cn_sp a b < 9 := by
  unfold cn_sp
  split
  · exact cn_ab_le (by omega) (by omega)
  · exact cn_ab_le (by omega) (by omega)
theorem cn_absX {x y : Nat} (hx : x < 9) (hy : y < 9) {P : Int32 → Prop} (h : P (nI (cn_ab x y))) : (0 ≤ nI x - nI y → P (nI x - nI y)) ∧ (¬ 0 ≤ nI x - nI y → P (-(nI x - nI y))) := by
  by_cases e : y ≤ x
  · rw [show cn_ab x y = x - y from by unfold cn_ab; split <;> omega] at h
    rw [pk_sub e]
    exact br_t (nI_pos' (by omega)) h
  · rw [show cn_ab x y = y - x from by unfold cn_ab; split <;> omega] at h
    refine br_f (Int32.not_le.mpr (pk_sneg (by omega) (by omega))) ?_
    rw [Int32.neg_sub, pk_sub (by omega)]
    exact h
theorem cn_spX {post : Int32 → Prop} {a b : Nat} (ha : a < 81) (hb : b < 81) (h : post (nI (cn_sp a b))) : wpX_span post (nI a) (nI b) := by
  have r1 : nI a - nI a / 9 * 9 = nI (a % 9) := pk_rem (d := 9) (by omega) (by decide) (by decide)
  have r2 : nI b - nI b / 9 * 9 = nI (b % 9) := pk_rem (d := 9) (by omega) (by decide) (by decide)
  have d1 : nI a / 9 = nI (a / 9) := pk_div (d := 9) (by omega) (by decide) (by decide)
  have d2 : nI b / 9 = nI (b / 9) := pk_div (d := 9) (by omega) (by decide) (by decide)
  have s1 := cn_ab_le (x := a % 9) (y := b % 9) (by omega) (by omega)
  have s2 := cn_ab_le (x := a / 9) (y := b / 9) (by omega) (by omega)
  unfold wpX_span
  rw [r1, r2, d1, d2]
  refine ⟨by decide, by decide, nm_e ⟨by decide, by decide, nm_e ?_⟩⟩
  refine cn_absX (P := fun z => wX_span_30 post (nI (a / 9) - nI (b / 9)) z) (by omega) (by omega) ?_
  refine cn_absX (P := fun z => wX_span_42 post (nI (cn_ab (a % 9) (b % 9))) z) (by omega) (by omega) ?_
  refine pk_le (cn_ab (a % 9) (b % 9)) (cn_ab (a / 9) (b / 9)) (fun q => ?_) (fun q => ?_)
  · unfold cn_sp at h; rw [if_pos q] at h; exact h
  · unfold cn_sp at h; rw [if_neg (by omega)] at h; exact h
/-! clearances -/
def cn_cl (B : Nat → Int32) (c : Nat) : Nat → Nat
  | 0 => 9
  | i + 1 => if B i = 0 then cn_cl B c i else if cn_cl B c i ≤ cn_sp c i then cn_cl B c i else cn_sp c i
theorem cn_cl_0 {B : Nat → Int32} {c i : Nat} (h : B i = 0) : cn_cl B c (i + 1) = cn_cl B c i := if_pos h
theorem cn_cl_1 {B : Nat → Int32} {c i : Nat} (h : ¬ B i = 0) : cn_cl B c (i + 1) = if cn_cl B c i ≤ cn_sp c i then cn_cl B c i else cn_sp c i := if_neg h
theorem cn_cl_le (B : Nat → Int32) (c : Nat) : ∀ i, cn_cl B c i ≤ 9 := by
  intro i
  induction i with
  | zero => exact Nat.le_refl 9
  | succ i ih =>
    by_cases e : B i = 0
    · rw [cn_cl_0 e]; exact ih
    · rw [cn_cl_1 e]; split <;> omega
theorem cn_clX {post : Int32 → Prop} (f1 f2 f3 f4 : Int32) (B cx dx : Nat → Int32) {c : Nat} (hc : c < 81) (h : post (nI (cn_cl B c 81))) : wpX_clearanceOf post (f1, f2, f3, f4, B, cx, dx) (nI c) := by
  refine loop_0 (fun n i s => wX_clearanceOf_5 post (nI c) f1 f2 f3 f4 B cx dx n (nI s) (nI i)) (fun i s => s = cn_cl B c i) 81 9 rfl (fun n s hs => ?_) (fun n i s hi hs k => ?_)
  · subst hs
    exact br_t (nI_le (Nat.le_refl 81) (by decide)) h
  · have l := cn_cl_le B c i
    have l2 := cn_sp_le hc hi
    refine br_f (nI_ge hi (by decide)) ⟨vp_in_nI hi (by decide), ?_⟩
    rw [nI_clamp (by omega)]
    by_cases e : B i = 0
    · refine br_t e (nm_r (nI_1 i) (k s ?_))
      rw [cn_cl_0 e]; exact hs
    · refine br_f e (cn_spX hc hi (pk_le s (cn_sp c i) (fun q => nm_r (nI_1 i) (k s ?_)) (fun q => nm_r (nI_1 i) (k (cn_sp c i) ?_))))
      · rw [cn_cl_1 e, if_pos (by omega)]; exact hs
      · rw [cn_cl_1 e, if_neg (by omega)]
theorem cn_clY {post : Int32 → Prop} (f1 f2 f3 f4 : Int32) (B cy dy : Nat → Int32) {c : Nat} (hc : c < 81) (h : post (nI (cn_cl B c 81))) : wpY_clearance post (f1, f2, f3, f4, B, cy, dy) (nI c) := by
  unfold wpY_clearance
  dsimp only
  refine cn_inY _ hc (br_f (by decide) ?_)
  refine loop_0 (fun n i s => wY_clearance_15 post (nI c) f1 f2 f3 f4 B cy dy n (nI s) (nI i)) (fun i s => s = cn_cl B c i) 81 9 rfl (fun n s hs => ?_) (fun n i s hi hs k => ?_)
  · subst hs
    exact br_t (nI_le (Nat.le_refl 81) (by decide)) h
  · have l := cn_cl_le B c i
    have l2 := cn_sp_le hc hi
    refine br_f (nI_ge hi (by decide)) ⟨vp_in_nI hi (by decide), ?_⟩
    rw [nI_clamp (by omega)]
    by_cases e : B i = 0
    · refine br_t e (nm_r (nI_1 i) (k s ?_))
      rw [cn_cl_0 e]; exact hs
    · have r1 : nI c - nI c / 9 * 9 = nI (c % 9) := pk_rem (d := 9) (by omega) (by decide) (by decide)
      have r2 : nI i - nI i / 9 * 9 = nI (i % 9) := pk_rem (d := 9) (by omega) (by decide) (by decide)
      have d1 : nI c / 9 = nI (c / 9) := pk_div (d := 9) (by omega) (by decide) (by decide)
      have d2 : nI i / 9 = nI (i / 9) := pk_div (d := 9) (by omega) (by decide) (by decide)
      have s1 := cn_ab_le (x := c % 9) (y := i % 9) (by omega) (by omega)
      have s2 := cn_ab_le (x := c / 9) (y := i / 9) (by omega) (by omega)
      have fin : wY_clearance_96 post (wY_clearance_15 post (nI c) f1 f2 f3 f4 B cy dy n) (nI c) (nI s) (nI i) (nI (cn_ab (c % 9) (i % 9))) (nI (cn_ab (c / 9) (i / 9))) f1 f2 f3 f4 B cy dy := by
        have f2 : wY_clearance_112 post (wY_clearance_15 post (nI c) f1 f2 f3 f4 B cy dy n) (nI c) (nI s) (nI i) (nI (cn_sp c i)) f1 f2 f3 f4 B cy dy := by
          refine pk_le s (cn_sp c i) (fun q => nm_r (nI_1 i) (k s ?_)) (fun q => nm_r (nI_1 i) (k (cn_sp c i) ?_))
          · show s = _
            rw [cn_cl_1 e, if_pos (by omega)]; exact hs
          · show cn_sp c i = _
            rw [cn_cl_1 e, if_neg (by omega)]
        refine pk_le (cn_ab (c % 9) (i % 9)) (cn_ab (c / 9) (i / 9)) (fun q => ?_) (fun q => ?_)
        · rw [show cn_sp c i = cn_ab (c / 9) (i / 9) from if_pos q] at f2; exact f2
        · rw [show cn_sp c i = cn_ab (c % 9) (i % 9) from if_neg (by omega)] at f2; exact f2
      have mid : wY_clearance_62 post (wY_clearance_15 post (nI c) f1 f2 f3 f4 B cy dy n) (nI c) (nI s) (nI i) (nI (cn_ab (c % 9) (i % 9))) f1 f2 f3 f4 B cy dy := by
        unfold wY_clearance_62
        rw [d1, d2]
        refine ⟨by decide, by decide, pk_le (c / 9) (i / 9) (fun q => ⟨by decide, by decide, ?_⟩) (fun q => ⟨by decide, by decide, ?_⟩)⟩
        · rw [pk_sub q]
          rw [show cn_ab (c / 9) (i / 9) = i / 9 - c / 9 from if_pos q] at fin; exact fin
        · rw [pk_sub (Nat.le_of_lt q)]
          rw [show cn_ab (c / 9) (i / 9) = c / 9 - i / 9 from if_neg (by omega)] at fin; exact fin
      refine br_f e ⟨by decide, by decide, ?_⟩
      rw [r1, r2]
      refine pk_le (c % 9) (i % 9) (fun q => ⟨by decide, by decide, ?_⟩) (fun q => ⟨by decide, by decide, ?_⟩)
      · rw [pk_sub q]
        rw [show cn_ab (c % 9) (i % 9) = i % 9 - c % 9 from if_pos q] at mid; exact mid
      · rw [pk_sub (Nat.le_of_lt q)]
        rw [show cn_ab (c % 9) (i % 9) = c % 9 - i % 9 from if_neg (by omega)] at mid; exact mid
/-! costs -/
def cn_k (B : Nat → Int32) (R G c : Nat) : Nat := if cn_cl B c 81 ≤ R then 1 + G * (R + 1 - cn_cl B c 81) else 1
theorem cn_k_in (B : Nat → Int32) {R G : Nat} (hR : R ≤ 3) (hG : G ≤ 9) (c : Nat) : 1 ≤ cn_k B R G c ∧ cn_k B R G c ≤ 37 := by
  unfold cn_k
  split
  · have a : G * (R + 1 - cn_cl B c 81) ≤ 9 * 4 := Nat.mul_le_mul hG (by omega)
    omega
  · omega
def cn_K (B : Nat → Int32) (R G c : Nat) : Int32 := if B c = 0 then nI (cn_k B R G c) else -4
theorem cn_coX {post : Int32 → Prop} (f1 f2 : Int32) (R G : Nat) (B cx dx : Nat → Int32) {c : Nat} (hc : c < 81) (hR : R ≤ 3) (h : post (cn_K B R G c)) : wpX_costOf post (f1, f2, nI R, nI G, B, cx, dx) (nI c) := by
  refine ⟨vp_in_nI hc (by decide), ?_⟩
  rw [nI_clamp (by omega)]
  have l := cn_cl_le B c 81
  by_cases e : B c = 0
  · rw [show cn_K B R G c = nI (cn_k B R G c) from if_pos e] at h
    refine br_t e (cn_clX _ _ _ _ _ _ _ hc (pk_le (cn_cl B c 81) R (fun q => ?_) (fun q => ?_)))
    · rw [show cn_k B R G c = 1 + G * (R + 1 - cn_cl B c 81) from if_pos q] at h
      rw [nI_1, pk_sub (by omega), pk_mul, show ∀ x, (1 : Int32) + nI x = nI (1 + x) from fun x => nI_add 1 x]
      exact h
    · rw [show cn_k B R G c = 1 from if_neg (by omega)] at h
      exact h
  · rw [show cn_K B R G c = -4 from if_neg e] at h
    exact br_f e h
theorem cn_coY {post : Int32 → Prop} (f1 f2 : Int32) (R G : Nat) (B cy dy : Nat → Int32) {c : Nat} (hc : c < 81) (hR : R ≤ 3) (h : post (cn_K B R G c)) : wpY_cost post (f1, f2, nI R, nI G, B, cy, dy) (nI c) := by
  unfold wpY_cost
  dsimp only
  refine cn_inY _ hc (br_f (by decide) ⟨vp_in_nI hc (by decide), ?_⟩)
  rw [nI_clamp (by omega)]
  have l := cn_cl_le B c 81
  by_cases e : B c = 0
  · rw [show cn_K B R G c = nI (cn_k B R G c) from if_pos e] at h
    refine br_t e (cn_clY _ _ _ _ _ _ _ hc (pk_le (cn_cl B c 81) R (fun q => ?_) (fun q => ?_)))
    · rw [show cn_k B R G c = 1 + G * (R + 1 - cn_cl B c 81) from if_pos q] at h
      rw [nI_1, pk_sub (by omega), pk_mul, show ∀ x, (1 : Int32) + nI x = nI (1 + x) from fun x => nI_add 1 x]
      exact h
    · rw [show cn_k B R G c = 1 from if_neg (by omega)] at h
      exact h
  · rw [show cn_K B R G c = -4 from if_neg e] at h
    exact br_f e h
end
section
/-! the component's measuring against the pure rounds -/
def cn_ex (d : Nat) : Int32 := if d < 1000000 then nI d else -4
theorem cn_ex_t {d : Nat} (h : d < 1000000) : cn_ex d = nI d := if_pos h
theorem cn_ex_f {d : Nat} (h : ¬ d < 1000000) : cn_ex d = -4 := if_neg h
def cn_b : Bool → Int32
  | true => 1
  | false => 0
theorem cn_b_n (b : Bool) : narrow .boolean (.int (cn_b b)) = .int (cn_b b) := by cases b <;> rfl
def cn_pr (k D : Nat → Nat) (c d : Nat) : Int32 := if cn_nb c d < 81 ∧ D (cn_nb c d) < 1000000 then nI (k (cn_nb c d) + D (cn_nb c d)) else -4
theorem cn_prX {post : Int32 → Prop} (f1 f2 f3 f4 : Int32) (B cx dx : Nat → Int32) {k D : Nat → Nat} {c d : Nat} (hcx : ∀ j, j < 81 → B j = 0 → cx j = nI (k j)) (hdx : ∀ j, j < 81 → dx j = cn_ex (D j)) (hB : ∀ j, j < 81 → ¬ B j = 0 → D j = 1000000)
    (hc : c < 81) (hd : d < 4) (h : post (cn_pr k D c d)) : wpX_priceThrough post (f1, f2, f3, f4, B, cx, dx) (nI c) (nI d) := by
  unfold wpX_priceThrough
  dsimp only
  refine cn_nbX hc hd ?_
  unfold cn_pr at h
  generalize cn_nb c d = t at h ⊢
  by_cases e1 : t < 81
  · rw [cn_e_t e1]
    refine br_f (cn_m4 (by omega)) ⟨vp_in_nI e1 (by decide), ?_⟩
    rw [nI_clamp (by omega), hdx t e1]
    by_cases e2 : D t < 1000000
    · rw [if_pos ⟨e1, e2⟩] at h
      have z : B t = 0 := Classical.byContradiction (fun y => by have := hB t e1 y; omega)
      rw [cn_ex_t e2, hcx t e1 z, nI_add]
      exact br_f (cn_m4 (by omega)) ⟨vp_in_nI e1 (by decide), vp_in_nI e1 (by decide), h⟩
    · rw [if_neg (fun y => e2 y.2)] at h
      rw [cn_ex_f e2]
      exact br_t rfl h
  · rw [if_neg (fun y => e1 y.1)] at h
    rw [cn_e_f e1]
    exact br_t rfl h
theorem cn_imX {post : Int32 → SX → Prop} (f1 f2 f3 f4 : Int32) (B cx dx : Nat → Int32) {k D : Nat → Nat} {c b : Nat} (hk : ∀ j, 1 ≤ k j ∧ k j ≤ 37) (hcx : ∀ j, j < 81 → B j = 0 → cx j = nI (k j)) (hc : c < 81) (hBc : B c = 0)
    (I : cn_Iv B b D) (hb : b ≤ 26300) (hdx : ∀ j, j < 81 → dx j = cn_ex (D j))
    (h : ∀ dx', (∀ j, j < 81 → dx' j = cn_ex ((cn_rx k c (false, D) 4).2 j)) → post (cn_b (cn_rx k c (false, D) 4).1) (f1, f2, f3, f4, B, cx, dx')) : wpX_improve post (f1, f2, f3, f4, B, cx, dx) (nI c) := by
  refine loop_0 (fun n i s => wX_improve_4 post (nI c) f1 f2 f3 f4 n (cn_b s.1) (nI i) B cx s.2) (fun i s => s.1 = (cn_rx k c (false, D) i).1 ∧ ∀ j, j < 81 → s.2 j = cn_ex ((cn_rx k c (false, D) i).2 j)) 4 (false, dx) ⟨rfl, hdx⟩ (fun n s hs => ?_) (fun n i s hi hs kk => ?_)
  · refine br_t (nI_le (Nat.le_refl 4) (by decide)) ⟨cn_b_n _, ?_⟩
    rw [hs.1]
    exact h s.2 hs.2
  · have IT := cn_ind_rx k c (fun b D => cn_Iv B b D) (fun b D d _ hcd I => cn_Iv_s hk b D c d hBc hcd I) (fun b D I => cn_Iv_w b D I) (false, D) b I i (by omega)
    rw [cn_rx_s] at kk
    generalize cn_rx k c (false, D) i = T at hs IT kk
    obtain ⟨hs1, hs2⟩ := hs
    have ci : (nI c).toNatClampNeg = c := nI_clamp (by omega)
    have k1 := hk (cn_nb c i)
    refine br_f (nI_ge hi (by decide)) (cn_prX f1 f2 f3 f4 B cx s.2 hcx hs2 IT.2 hc hi ?_)
    have skip : ¬ cn_cd k T.2 c i → ∀ y, y = nI i + 1 → wX_improve_4 post (nI c) f1 f2 f3 f4 n (cn_b s.1) y B cx s.2 := fun z => nm_r (nI_1 i) (kk s (by rw [cn_st_f z]; exact ⟨hs1, hs2⟩))
    have st : cn_cd k T.2 c i → wX_improve_46 post (wX_improve_4 post (nI c) f1 f2 f3 f4 n) (nI c) (nI i) (nI (k (cn_nb c i) + T.2 (cn_nb c i))) f1 f2 f3 f4 B cx s.2 := by
      intro z
      have z3 := z.2.2
      have q : T.2 (cn_nb c i) + k (cn_nb c i) < 1000000 := by
        have a := IT.1 c hc
        have a2 := IT.1 (cn_nb c i) z.1
        have a3 := z.2.1
        omega
      refine ⟨vp_in_nI hc (by decide), nm_e (nm_r (nI_1 i) (kk (true, upd s.2 (nI c).toNatClampNeg (nI (k (cn_nb c i) + T.2 (cn_nb c i)))) ?_))⟩
      rw [cn_st_t z, ci]
      refine ⟨rfl, fun j hj => ?_⟩
      show upd s.2 c _ j = cn_ex (cn_up T.2 c _ j)
      by_cases e : j = c
      · rw [e, pk_us, cn_up_s, cn_ex_t q, Nat.add_comm]
      · rw [pk_un e, cn_up_n _ _ _ e]
        exact hs2 j hj
    unfold cn_pr
    by_cases e : cn_nb c i < 81 ∧ T.2 (cn_nb c i) < 1000000
    · rw [if_pos e]
      refine br_f (cn_m4 (by omega)) ⟨vp_in_nI hc (by decide), ?_⟩
      rw [ci, hs2 c hc]
      by_cases e2 : T.2 c < 1000000
      · rw [cn_ex_t e2]
        refine br_f (cn_m4 (by omega)) ⟨vp_in_nI hc (by decide), pk_le (T.2 c) (k (cn_nb c i) + T.2 (cn_nb c i)) (fun q => skip (fun z => ?_)) (fun q => st ⟨e.1, e.2, ?_⟩)⟩
        · have := z.2.2
          omega
        · omega
      · rw [cn_ex_f e2]
        refine br_t rfl (st ⟨e.1, e.2, ?_⟩)
        have a := IT.1 c hc
        have a2 := IT.1 (cn_nb c i) e.1
        omega
    · rw [if_neg e]
      exact br_t rfl (skip (fun z => e ⟨z.1, z.2.1⟩))
theorem cn_iaX {post : Int32 → SX → Prop} (f1 f2 f3 f4 : Int32) (B cx dx : Nat → Int32) {k D : Nat → Nat} {b : Nat} (hk : ∀ j, 1 ≤ k j ∧ k j ≤ 37) (hcx : ∀ j, j < 81 → B j = 0 → cx j = nI (k j))
    (I : cn_Iv B b D) (hb : b ≤ 25976) (hdx : ∀ j, j < 81 → dx j = cn_ex (D j))
    (h : ∀ dx', (∀ j, j < 81 → dx' j = cn_ex ((cn_sw B k D 81).2 j)) → post (cn_b (cn_sw B k D 81).1) (f1, f2, f3, f4, B, cx, dx')) : wpX_improveAll post (f1, f2, f3, f4, B, cx, dx) := by
  refine loop_0 (fun n i s => wX_improveAll_4 post n (cn_b s.1) (nI i) f1 f2 f3 f4 B cx s.2) (fun i s => s.1 = (cn_sw B k D i).1 ∧ ∀ j, j < 81 → s.2 j = cn_ex ((cn_sw B k D i).2 j)) 81 (false, dx) ⟨rfl, hdx⟩ (fun n s hs => ?_) (fun n i s hi hs kk => ?_)
  · refine br_t (nI_le (Nat.le_refl 81) (by decide)) ⟨cn_b_n _, ?_⟩
    rw [hs.1]
    exact h s.2 hs.2
  · have IT := cn_ind_sw B k (fun b D => cn_Iv B b D) (fun b D c d _ hB _ hcd I => cn_Iv_s hk b D c d hB hcd I) (fun b D I => cn_Iv_w b D I) D b I i (by omega)
    obtain ⟨hs1, hs2⟩ := hs
    refine br_f (nI_ge hi (by decide)) ⟨vp_in_nI hi (by decide), ?_⟩
    rw [nI_clamp (by omega)]
    by_cases e : B i = 0
    · rw [cn_sw_t k D e] at kk
      generalize cn_sw B k D i = T at hs1 hs2 IT kk
      refine br_t e (cn_imX f1 f2 f3 f4 B cx s.2 hk hcx hi e IT (by omega) hs2 (fun dx' hdx' => ?_))
      generalize cn_rx k i (false, T.2) 4 = U at hdx' kk
      dsimp only
      cases hu : U.1 with
      | false =>
        refine br_t rfl (nm_r (nI_1 i) (kk (s.1, dx') ⟨?_, hdx'⟩))
        show s.1 = (T.1 || U.1)
        rw [hu, Bool.or_false, hs1]
      | true =>
        refine br_f (by decide) (nm_r (nI_1 i) (kk (true, dx') ⟨?_, hdx'⟩))
        show true = (T.1 || U.1)
        rw [hu, Bool.or_true]
    · rw [cn_sw_f k D e] at kk
      exact br_f e (nm_r (nI_1 i) (kk s ⟨hs1, hs2⟩))
theorem cn_K_k {B : Nat → Int32} {R G j : Nat} (h : B j = 0) : cn_K B R G j = nI (cn_k B R G j) := if_pos h
theorem cn_m60 {post : SX → Prop} (f1 : Int32) (g R G : Nat) (B cx dx : Nat → Int32) (hR : R ≤ 3) (hG : G ≤ 9) (hcx : ∀ j, j < 81 → cx j = cn_K B R G j) (hdx : ∀ j, j < 81 → dx j = cn_ex (cn_D0 B g j))
    (h : ∀ dx', (∀ j, j < 81 → dx' j = cn_ex ((cn_rn B (cn_k B R G) (cn_D0 B g) 81).2 j)) → post (f1, nI g, nI R, nI G, B, cx, dx')) : ∃ n, wX_measure_60 post n 1 0 f1 (nI g) (nI R) (nI G) B cx dx := by
  have hk := cn_k_in B hR hG
  refine loop_0 (fun n i s => wX_measure_60 post n (cn_b s.1) (nI i) f1 (nI g) (nI R) (nI G) B cx s.2) (fun i s => s.1 = (cn_rn B (cn_k B R G) (cn_D0 B g) i).1 ∧ ∀ j, j < 81 → s.2 j = cn_ex ((cn_rn B (cn_k B R G) (cn_D0 B g) i).2 j)) 81 (true, dx) ⟨rfl, hdx⟩ (fun n s hs => ?_) (fun n i s hi hs kk => ?_)
  · exact br_t (nI_le (Nat.le_refl 81) (by decide)) (h s.2 hs.2)
  · have IT := cn_rn_Iv (B := B) hk g i
    have stay := cn_rn_stay (B := B) (k := cn_k B R G) (D := cn_D0 B g) (n := i)
    obtain ⟨hs1, hs2⟩ := hs
    refine br_f (nI_ge hi (by decide)) ?_
    cases e : (cn_rn B (cn_k B R G) (cn_D0 B g) i).1 with
    | false =>
      rw [hs1, e]
      have st := stay e (81 - i)
      rw [show i + (81 - i) = 81 from by omega] at st
      rw [st] at h
      exact br_t rfl (h s.2 hs2)
    | true =>
      rw [cn_rn_t e] at kk
      rw [hs1, e]
      exact br_f (by decide) (cn_iaX f1 (nI g) (nI R) (nI G) B cx s.2 hk (fun j hj hB => (hcx j hj).trans (cn_K_k hB)) IT (by omega) hs2 (fun dx' hdx' => nm_r (nI_1 i) (kk (_, dx') ⟨rfl, hdx'⟩)))
theorem cn_upd_lt {a f : Nat → Int32} {i : Nat} {v : Int32} (h : ∀ j, j < i → a j = f j) (hv : v = f i) : ∀ j, j < i + 1 → upd a i v j = f j := by
  intro j hj
  by_cases e : j = i
  · rw [e, pk_us, hv]
  · rw [pk_un e]; exact h j (by omega)
theorem cn_D0_all {B : Nat → Int32} {g : Nat} (h : ¬ B g = 0) (j : Nat) : cn_D0 B g j = 1000000 := by
  refine if_neg ?_
  intro y
  exact h (y.1 ▸ y.2)
theorem cn_D0_fx {B : Nat → Int32} {k : Nat → Nat} {g : Nat} (h : ¬ B g = 0) : cn_fx B k (cn_D0 B g) := by
  intro c _ _ d _ z
  have a := z.2.1
  rw [cn_D0_all h] at a
  omega
theorem cn_msX {post : SX → Prop} (f1 : Int32) (g R G : Nat) (B cx dx : Nat → Int32) (hg : g < 81) (hR : R ≤ 3) (hG : G ≤ 9)
    (h : ∀ cx' dx', (∀ j, j < 81 → cx' j = cn_K B R G j) → (∀ j, j < 81 → dx' j = cn_ex ((cn_rn B (cn_k B R G) (cn_D0 B g) 81).2 j)) → post (f1, nI g, nI R, nI G, B, cx', dx')) : wpX_measure post (f1, nI g, nI R, nI G, B, cx, dx) := by
  refine loop_0 (fun n i s => wX_measure_2 post f1 (nI g) (nI R) (nI G) n (nI i) B s.1 s.2) (fun i s => (∀ j, j < i → s.1 j = cn_K B R G j) ∧ ∀ j, j < i → s.2 j = -4) 81 (cx, dx) ⟨lt_0, lt_0⟩ (fun n s hs => ?_) (fun n i s hi hs kk => ?_)
  · refine br_t (nI_le (Nat.le_refl 81) (by decide)) ⟨vp_in_nI hg (by decide), ?_⟩
    rw [nI_clamp (by omega)]
    by_cases e : B g = 0
    · refine br_t e ⟨vp_in_nI hg (by decide), nm_e (cn_m60 f1 g R G B s.1 _ hR hG hs.1 (fun j hj => ?_) (fun dx' hdx' => h s.1 dx' hs.1 hdx'))⟩
      by_cases q : j = g
      · rw [q, pk_us, show cn_D0 B g g = 0 from if_pos ⟨rfl, e⟩]
        rfl
      · rw [pk_un q, show cn_D0 B g j = 1000000 from if_neg (fun y => q y.1), hs.2 j hj]
        rfl
    · refine br_f e (h s.1 s.2 hs.1 (fun j hj => ?_))
      rw [cn_rn_fx (cn_D0_fx e), cn_D0_all e j, hs.2 j hj]
      rfl
  · have ci : (nI i).toNatClampNeg = i := nI_clamp (by omega)
    exact br_f (nI_ge hi (by decide)) (cn_coX f1 (nI g) R G B s.1 s.2 hi hR ⟨vp_in_nI hi (by decide), nm_r (e' := upd s.1 i (cn_K B R G i)) (by rw [ci]) ⟨vp_in_nI hi (by decide), nm_r (e' := upd s.2 i (-4)) (by rw [ci]) (nm_r (nI_1 i) (kk (upd s.1 i (cn_K B R G i), upd s.2 i (-4)) ⟨cn_upd_lt hs.1 rfl, cn_upd_lt (f := fun _ => -4) hs.2 rfl⟩))⟩⟩)
end
section
/-! the reference's measuring against the pure rounds -/
theorem cn_imY {post : Int32 → SY → Prop} (f1 f2 f3 f4 : Int32) (B cy dy : Nat → Int32) {k D : Nat → Nat} {c b : Nat} (hk : ∀ j, 1 ≤ k j ∧ k j ≤ 37) (hcy : ∀ j, j < 81 → B j = 0 → cy j = nI (k j)) (hc : c < 81) (hBc : B c = 0)
    (I : cn_Iv B b D) (hb : b ≤ 26300) (hdy : ∀ j, j < 81 → dy j = nI (D j))
    (h : ∀ dy', (∀ j, j < 81 → dy' j = nI ((cn_rx k c (false, D) 4).2 j)) → post (cn_b (cn_rx k c (false, D) 4).1) (f1, f2, f3, f4, B, cy, dy')) : wpY_relax post (f1, f2, f3, f4, B, cy, dy) (nI c) := by
  refine loop_0 (fun n i s => wY_relax_4 post (nI c) f1 f2 f3 f4 n (cn_b s.1) (nI i) B cy s.2) (fun i s => s.1 = (cn_rx k c (false, D) i).1 ∧ ∀ j, j < 81 → s.2 j = nI ((cn_rx k c (false, D) i).2 j)) 4 (false, dy) ⟨rfl, hdy⟩ (fun n s hs => ?_) (fun n i s hi hs kk => ?_)
  · refine br_t (nI_le (Nat.le_refl 4) (by decide)) ⟨cn_b_n _, ?_⟩
    rw [hs.1]
    exact h s.2 hs.2
  · have IT := cn_ind_rx k c (fun b D => cn_Iv B b D) (fun b D d _ hcd I => cn_Iv_s hk b D c d hBc hcd I) (fun b D I => cn_Iv_w b D I) (false, D) b I i (by omega)
    rw [cn_rx_s] at kk
    generalize cn_rx k c (false, D) i = T at hs IT kk
    obtain ⟨hs1, hs2⟩ := hs
    have ci : (nI c).toNatClampNeg = c := nI_clamp (by omega)
    have k1 := hk (cn_nb c i)
    have skip : ¬ cn_cd k T.2 c i → ∀ y, y = nI i + 1 → wY_relax_4 post (nI c) f1 f2 f3 f4 n (cn_b s.1) y B cy s.2 := fun z => nm_r (nI_1 i) (kk s (by rw [cn_st_f z]; exact ⟨hs1, hs2⟩))
    have st : cn_cd k T.2 c i → ∀ a, a = upd s.2 c (nI (T.2 (cn_nb c i) + k (cn_nb c i))) → ∀ y, y = nI i + 1 → wY_relax_4 post (nI c) f1 f2 f3 f4 n 1 y B cy a := by
      intro z
      refine nm_e (nm_r (nI_1 i) (kk (true, upd s.2 c (nI (T.2 (cn_nb c i) + k (cn_nb c i)))) ?_))
      rw [cn_st_t z]
      refine ⟨rfl, fun j hj => ?_⟩
      show upd s.2 c _ j = nI (cn_up T.2 c _ j)
      by_cases e : j = c
      · rw [e, pk_us, cn_up_s]
      · rw [pk_un e, cn_up_n _ _ _ e]
        exact hs2 j hj
    refine br_f (nI_ge hi (by decide)) (cn_nbY _ hc hi ?_)
    by_cases e : cn_nb c i < 81
    · have ct : (nI (cn_nb c i)).toNatClampNeg = cn_nb c i := nI_clamp (by omega)
      have vt : vp_in (nI (cn_nb c i)) 81 := vp_in_nI e (by decide)
      have vc : vp_in (nI c) 81 := vp_in_nI hc (by decide)
      have a := IT.1 c hc
      have a2 := IT.1 (cn_nb c i) e
      rw [cn_e_t e]
      refine br_f (cn_m4 (by omega)) ⟨vt, ?_⟩
      rw [ct, ci, hs2 _ e, hs2 c hc]
      refine pk_le 1000000 (T.2 (cn_nb c i)) (fun q => skip (fun z => ?_)) (fun q => ⟨vt, vt, vc, ?_⟩)
      · have := z.2.1
        omega
      · have z : B (cn_nb c i) = 0 := Classical.byContradiction (fun y => by have := IT.2 _ e y; omega)
        rw [hcy _ e z, nI_add]
        refine pk_le (T.2 c) (T.2 (cn_nb c i) + k (cn_nb c i)) (fun q2 => skip (fun z => ?_)) (fun q2 => ⟨vt, vt, vc, st ⟨e, q, q2⟩⟩)
        have := z.2.2
        omega
    · rw [cn_e_f e]
      exact br_t rfl (skip (fun z => e z.1))
theorem cn_iaY {post : SY → Prop} {J : Int32 → Int32 → Int32 → Int32 → Int32 → Int32 → (Nat → Int32) → (Nat → Int32) → (Nat → Int32) → Prop} (f1 f2 f3 f4 : Int32) (r : Nat) (B cy dy : Nat → Int32) {k D : Nat → Nat} {b : Nat} (hk : ∀ j, 1 ≤ k j ∧ k j ≤ 37) (hcy : ∀ j, j < 81 → B j = 0 → cy j = nI (k j))
    (I : cn_Iv B b D) (hb : b ≤ 25976) (hdy : ∀ j, j < 81 → dy j = nI (D j))
    (h : ∀ dy', (∀ j, j < 81 → dy' j = nI ((cn_sw B k D 81).2 j)) → J (cn_b (cn_sw B k D 81).1) (nI (r + 1)) f1 f2 f3 f4 B cy dy') : ∃ n, wY_findDistances_72 post J (nI r) n 0 0 f1 f2 f3 f4 B cy dy := by
  refine loop_0 (fun n i s => wY_findDistances_72 post J (nI r) n (cn_b s.1) (nI i) f1 f2 f3 f4 B cy s.2) (fun i s => s.1 = (cn_sw B k D i).1 ∧ ∀ j, j < 81 → s.2 j = nI ((cn_sw B k D i).2 j)) 81 (false, dy) ⟨rfl, hdy⟩ (fun n s hs => ?_) (fun n i s hi hs kk => ?_)
  · refine br_t (nI_le (Nat.le_refl 81) (by decide)) (nm_r (nI_1 r) ?_)
    rw [hs.1]
    exact h s.2 hs.2
  · have IT := cn_ind_sw B k (fun b D => cn_Iv B b D) (fun b D c d _ hB _ hcd I => cn_Iv_s hk b D c d hB hcd I) (fun b D I => cn_Iv_w b D I) D b I i (by omega)
    obtain ⟨hs1, hs2⟩ := hs
    refine br_f (nI_ge hi (by decide)) ⟨vp_in_nI hi (by decide), ?_⟩
    rw [nI_clamp (by omega)]
    by_cases e : B i = 0
    · rw [cn_sw_t k D e] at kk
      generalize cn_sw B k D i = T at hs1 hs2 IT kk
      refine br_t e (cn_imY f1 f2 f3 f4 B cy s.2 hk hcy hi e IT (by omega) hs2 (fun dy' hdy' => ?_))
      generalize cn_rx k i (false, T.2) 4 = U at hdy' kk
      dsimp only
      cases hu : U.1 with
      | false =>
        refine br_t rfl (nm_r (nI_1 i) (kk (s.1, dy') ⟨?_, hdy'⟩))
        show s.1 = (T.1 || U.1)
        rw [hu, Bool.or_false, hs1]
      | true =>
        refine br_f (by decide) (nm_r (nI_1 i) (kk (true, dy') ⟨?_, hdy'⟩))
        show true = (T.1 || U.1)
        rw [hu, Bool.or_true]
    · rw [cn_sw_f k D e] at kk
      exact br_f e (nm_r (nI_1 i) (kk s ⟨hs1, hs2⟩))
theorem cn_f58 {post : SY → Prop} (f1 : Int32) (g R G : Nat) (B cy dy : Nat → Int32) (hR : R ≤ 3) (hG : G ≤ 9) (hcy : ∀ j, j < 81 → cy j = cn_K B R G j) (hdy : ∀ j, j < 81 → dy j = nI (cn_D0 B g j))
    (h : ∀ dy', (∀ j, j < 81 → dy' j = nI ((cn_rn B (cn_k B R G) (cn_D0 B g) 81).2 j)) → post (f1, nI g, nI R, nI G, B, cy, dy')) : ∃ n, wY_findDistances_58 post n 1 0 f1 (nI g) (nI R) (nI G) B cy dy := by
  have hk := cn_k_in B hR hG
  refine loop_0 (fun n i s => wY_findDistances_58 post n (cn_b s.1) (nI i) f1 (nI g) (nI R) (nI G) B cy s.2) (fun i s => s.1 = (cn_rn B (cn_k B R G) (cn_D0 B g) i).1 ∧ ∀ j, j < 81 → s.2 j = nI ((cn_rn B (cn_k B R G) (cn_D0 B g) i).2 j)) 81 (true, dy) ⟨rfl, hdy⟩ (fun n s hs => ?_) (fun n i s hi hs kk => ?_)
  · exact br_t (nI_le (Nat.le_refl 81) (by decide)) (h s.2 hs.2)
  · have IT := cn_rn_Iv (B := B) hk g i
    have stay := cn_rn_stay (B := B) (k := cn_k B R G) (D := cn_D0 B g) (n := i)
    obtain ⟨hs1, hs2⟩ := hs
    refine br_f (nI_ge hi (by decide)) ?_
    cases e : (cn_rn B (cn_k B R G) (cn_D0 B g) i).1 with
    | false =>
      rw [hs1, e]
      have st := stay e (81 - i)
      rw [show i + (81 - i) = 81 from by omega] at st
      rw [st] at h
      exact br_t rfl (h s.2 hs2)
    | true =>
      rw [cn_rn_t e] at kk
      rw [hs1, e]
      exact br_f (by decide) (cn_iaY f1 (nI g) (nI R) (nI G) i B cy s.2 hk (fun j hj hB => (hcy j hj).trans (cn_K_k hB)) IT (by omega) hs2 (fun dy' hdy' => kk (_, dy') ⟨rfl, hdy'⟩))
theorem cn_msY {post : SY → Prop} (f1 : Int32) (g R G : Nat) (B cy dy : Nat → Int32) (hg : g < 81) (hR : R ≤ 3) (hG : G ≤ 9)
    (h : ∀ cy' dy', (∀ j, j < 81 → cy' j = cn_K B R G j) → (∀ j, j < 81 → dy' j = nI ((cn_rn B (cn_k B R G) (cn_D0 B g) 81).2 j)) → post (f1, nI g, nI R, nI G, B, cy', dy')) : wpY_findDistances post (f1, nI g, nI R, nI G, B, cy, dy) := by
  refine loop_0 (fun n i s => wY_findDistances_2 post f1 (nI g) (nI R) (nI G) n (nI i) B s.1 s.2) (fun i s => (∀ j, j < i → s.1 j = cn_K B R G j) ∧ ∀ j, j < i → s.2 j = nI (cn_D0 B g j)) 81 (cy, dy) ⟨lt_0, lt_0⟩ (fun n s hs => ?_) (fun n i s hi hs kk => ?_)
  · exact br_t (nI_le (Nat.le_refl 81) (by decide)) (cn_f58 f1 g R G B s.1 s.2 hR hG hs.1 hs.2 (fun dy' hdy' => h s.1 dy' hs.1 hdy'))
  · have ci : (nI i).toNatClampNeg = i := nI_clamp (by omega)
    have vi : vp_in (nI i) 81 := vp_in_nI hi (by decide)
    refine br_f (nI_ge hi (by decide)) (cn_coY f1 (nI g) R G B s.1 s.2 hi hR ⟨vi, nm_r (e' := upd s.1 i (cn_K B R G i)) (by rw [ci]) ?_⟩)
    rw [ci]
    have go : ∀ v : Int32, v = nI (cn_D0 B g i) → ∀ a, a = upd s.2 i v → ∀ y, y = nI i + 1 → wY_findDistances_2 post f1 (nI g) (nI R) (nI G) n y B (upd s.1 i (cn_K B R G i)) a :=
      fun v hv => nm_e (nm_r (nI_1 i) (kk (upd s.1 i (cn_K B R G i), upd s.2 i v) ⟨cn_upd_lt hs.1 rfl, cn_upd_lt (f := fun j => nI (cn_D0 B g j)) hs.2 hv⟩))
    refine pk_eq i g (fun q => ⟨vi, br_c (fun e => ⟨vi, go 0 ?_⟩) (fun e => ⟨vi, go 1000000 ?_⟩)⟩) (fun q => ⟨vi, go 1000000 ?_⟩)
    · rw [show cn_D0 B g i = 0 from if_pos ⟨q, e⟩]; rfl
    · rw [cn_D0_all (q ▸ e)]; rfl
    · rw [show cn_D0 B g i = 1000000 from if_neg (fun y => q y.1)]; rfl
end
section
/-! the direction from a cell: one answer for both sides -/
abbrev cn_gd (k D : Nat → Nat) (g c d : Nat) : Prop := (¬ c = g ∧ D c < 1000000) ∧ cn_nb c d < 81 ∧ D (cn_nb c d) < 1000000 ∧ D (cn_nb c d) + k (cn_nb c d) = D c
def cn_dr (k D : Nat → Nat) (g c : Nat) : Nat → Nat → Nat
  | 0, _ => 4
  | m + 1, i => if cn_gd k D g c i then i else cn_dr k D g c m (i + 1)
theorem cn_dr_t {k D : Nat → Nat} {g c m i : Nat} (h : cn_gd k D g c i) : cn_dr k D g c (m + 1) i = i := if_pos h
theorem cn_dr_f {k D : Nat → Nat} {g c m i : Nat} (h : ¬ cn_gd k D g c i) : cn_dr k D g c (m + 1) i = cn_dr k D g c m (i + 1) := if_neg h
theorem cn_dr_no {k D : Nat → Nat} {g c : Nat} (h : c = g ∨ ¬ D c < 1000000) : ∀ m i, cn_dr k D g c m i = 4 := by
  intro m
  induction m with
  | zero => intro i; rfl
  | succ m ih =>
    intro i
    rw [cn_dr_f (fun z => ?_)]
    · exact ih (i + 1)
    · cases h with
      | inl a => exact z.1.1 a
      | inr a => exact a z.1.2
theorem cn_dr_p {k D : Nat → Nat} {g c : Nat} : ∀ m i, i + m = 4 → (cn_dr k D g c m i = 4 ∧ ∀ d, i ≤ d → d < 4 → ¬ cn_gd k D g c d) ∨ (cn_dr k D g c m i < 4 ∧ cn_gd k D g c (cn_dr k D g c m i)) := by
  intro m
  induction m with
  | zero => intro i hi; exact Or.inl ⟨rfl, fun d h1 h2 => absurd h2 (by omega)⟩
  | succ m ih =>
    intro i hi
    by_cases e : cn_gd k D g c i
    · rw [cn_dr_t e]; exact Or.inr ⟨by omega, e⟩
    · rw [cn_dr_f e]
      cases ih (i + 1) (by omega) with
      | inl a =>
        refine Or.inl ⟨a.1, fun d h1 h2 => ?_⟩
        by_cases q : d = i
        · rw [q]; exact e
        · exact a.2 d (by omega) h2
      | inr a => exact Or.inr a
def cn_e4 (x : Nat) : Int32 := if x < 4 then nI x else -4
theorem cn_e4_t {x : Nat} (h : x < 4) : cn_e4 x = nI x := if_pos h
/-- the measured state of both sides -/
def cn_Ms (B : Nat → Int32) (k : Nat → Nat) (g : Nat) (D : Nat → Nat) (cx dx cy dy : Nat → Int32) : Prop :=
  cn_Ok B k g D ∧ (∀ j, 1 ≤ k j ∧ k j ≤ 37) ∧ (∀ j, j < 81 → B j = 0 → cx j = nI (k j)) ∧ (∀ j, j < 81 → dx j = cn_ex (D j)) ∧ (∀ j, j < 81 → B j = 0 → cy j = nI (k j)) ∧ (∀ j, j < 81 → dy j = nI (D j))
theorem cn_dfX {post : Int32 → Prop} (f1 f3 f4 : Int32) {g : Nat} {B cx dx cy dy : Nat → Int32} {k D : Nat → Nat} (M : cn_Ms B k g D cx dx cy dy) {c : Nat} (hc : c < 81) (hg : g < 81) (h : post (cn_e4 (cn_dr k D g c 4 0))) : wpX_directionFrom post (f1, nI g, f3, f4, B, cx, dx) (nI c) := by
  obtain ⟨⟨o1, o2, o3⟩, hk, hcx, hdx, hcy, hdy⟩ := M
  refine pk_eq c g (fun q => ?_) (fun q => ⟨vp_in_nI hc (by decide), ?_⟩)
  · rw [cn_dr_no (Or.inl q)] at h
    exact h
  · have ci : (nI c).toNatClampNeg = c := nI_clamp (by omega)
    rw [ci, hdx c hc]
    by_cases e : D c < 1000000
    · rw [cn_ex_t e]
      refine br_f (cn_m4 (by omega)) ⟨5, ?_⟩
      have key : ∀ m i, i + m = 4 → post (cn_e4 (cn_dr k D g c m i)) → wX_directionFrom_24 post (nI c) f1 (nI g) f3 f4 B cx dx (m + 1) (nI i) := by
        intro m
        induction m with
        | zero =>
          intro i hi hp
          exact br_t (nI_le (a := 4) (by omega) (by omega)) hp
        | succ m ih =>
          intro i hi hp
          refine br_f (nI_ge (b := 4) (by omega) (by decide)) (cn_prX f1 (nI g) f3 f4 B cx dx hcx hdx o2 hc (by omega) ⟨vp_in_nI hc (by decide), ?_⟩)
          rw [ci, hdx c hc, cn_ex_t e]
          unfold cn_pr
          by_cases z : cn_nb c i < 81 ∧ D (cn_nb c i) < 1000000
          · rw [if_pos z]
            have k1 := hk (cn_nb c i)
            refine pk_eq (k (cn_nb c i) + D (cn_nb c i)) (D c) (fun y => ?_) (fun y => nm_r (nI_1 i) (ih (i + 1) (by omega) ?_))
            · rw [cn_dr_t ⟨⟨q, e⟩, z.1, z.2, by omega⟩, cn_e4_t (by omega)] at hp
              exact hp
            · rw [cn_dr_f (fun w => y (by have := w.2.2.2; omega))] at hp
              exact hp
          · rw [if_neg z]
            refine br_f (fun y => cn_m4 (m := D c) (by omega) y.symm) (nm_r (nI_1 i) (ih (i + 1) (by omega) ?_))
            rw [cn_dr_f (fun w => z ⟨w.2.1, w.2.2.1⟩)] at hp
            exact hp
      exact key 4 0 rfl h
    · rw [cn_ex_f e]
      rw [cn_dr_no (Or.inr e)] at h
      exact br_t rfl h
theorem cn_dfY {post : Int32 → Prop} (f1 f3 f4 : Int32) {g : Nat} {B cx dx cy dy : Nat → Int32} {k D : Nat → Nat} (M : cn_Ms B k g D cx dx cy dy) {c : Nat} (hc : c < 81) (hg : g < 81) (h : post (cn_e4 (cn_dr k D g c 4 0))) : wpY_directionFrom post (f1, nI g, f3, f4, B, cy, dy) (nI c) := by
  obtain ⟨⟨o1, o2, o3⟩, hk, hcx, hdx, hcy, hdy⟩ := M
  have ci : (nI c).toNatClampNeg = c := nI_clamp (by omega)
  have vc : vp_in (nI c) 81 := vp_in_nI hc (by decide)
  have key : ∀ m i, i + m = 4 → post (cn_e4 (cn_dr k D g c m i)) → wY_directionFrom_2 post (nI c) f1 (nI g) f3 f4 B cy dy (m + 1) (nI i) := by
    intro m
    induction m with
    | zero =>
      intro i hi hp
      exact br_t (nI_le (a := 4) (by omega) (by omega)) hp
    | succ m ih =>
      intro i hi hp
      have skip : ¬ cn_gd k D g c i → ∀ y, y = nI i + 1 → wY_directionFrom_2 post (nI c) f1 (nI g) f3 f4 B cy dy (m + 1) y := by
        intro z
        refine nm_r (nI_1 i) (ih (i + 1) (by omega) ?_)
        rw [cn_dr_f z] at hp
        exact hp
      refine br_f (nI_ge (b := 4) (by omega) (by decide)) (cn_nbY _ hc (by omega) ?_)
      refine pk_eq c g (fun q => skip (fun z => z.1.1 q)) (fun q => ?_)
      by_cases e : cn_nb c i < 81
      · have ct : (nI (cn_nb c i)).toNatClampNeg = cn_nb c i := nI_clamp (by omega)
        have vt : vp_in (nI (cn_nb c i)) 81 := vp_in_nI e (by decide)
        have a := o1 c hc
        have a2 := o1 (cn_nb c i) e
        have k1 := hk (cn_nb c i)
        rw [cn_e_t e, ci, ct]
        refine br_f (cn_m4 (by omega)) ⟨vc, ?_⟩
        rw [hdy c hc]
        refine pk_le 1000000 (D c) (fun y => skip (fun z => by have := z.1.2; omega)) (fun y => ⟨vt, br_c (fun zB => ⟨vt, vt, vc, ?_⟩) (fun zB => skip (fun z => by have := o2 _ e zB; have := z.2.2.1; omega))⟩)
        rw [hdy _ e, hcy _ e zB, nI_add]
        refine pk_eq (D (cn_nb c i) + k (cn_nb c i)) (D c) (fun w => ?_) (fun w => skip (fun z => w z.2.2.2))
        rw [cn_dr_t ⟨⟨q, y⟩, e, by omega, w⟩, cn_e4_t (by omega)] at hp
        exact hp
      · rw [cn_e_f e]
        exact br_t rfl (skip (fun z => e z.2.1))
  exact ⟨5, key 4 0 rfl h⟩
/-! drive -/
theorem cn_drv {g : Nat} {B cx dx cy0 dy0 : Nat → Int32} {k D : Nat → Nat} (f3 f4 : Int32) (M0 : cn_Ms B k g D cx dx cy0 dy0) (hg : g < 81) (p0 : Int32) (L : Nat) (hL : L ≤ 40)
    (hp : ∀ i, i < L → ¬ p0 ≤ nI i) (hq : (40 : Int32) ≤ nI L ∨ p0 ≤ nI L) :
    ∀ m i c, i + m = L → c < 81 → ∃ r c', c' < 81 ∧ (∀ post : Int32 → SX → Prop, post (nI r) (nI c', nI g, f3, f4, B, cx, dx) → wX_drive_22 post (nI L) (nI g) f3 f4 B cx dx (m + 1) (nI i) (nI i) (nI c)) ∧
      (∀ cy dy, cn_Ms B k g D cx dx cy dy → ∀ post : Int32 → SY → Prop, post (nI r) (nI c', nI g, f3, f4, B, cy, dy) → wY_drive_8 post p0 (nI g) f3 f4 B cy dy (m + 1) (nI i) (nI i) (nI c)) := by
  have endY : ∀ (cy dy : Nat → Int32) (n j c : Nat) (post : Int32 → SY → Prop), post (nI j) (nI c, nI g, f3, f4, B, cy, dy) → wY_drive_8 post p0 (nI g) f3 f4 B cy dy (n + 1) (nI j) (nI L) (nI c) := by
    intro cy dy n j c post h
    exact br_c (fun _ => h) (fun z => br_t (hq.resolve_left z) h)
  have idle : ∀ (cy dy : Nat → Int32), cn_Ms B k g D cx dx cy dy → ∀ (j c : Nat), c < 81 → cn_dr k D g c 4 0 = 4 → ∀ m i, i + m = L → ∀ post : Int32 → SY → Prop, post (nI j) (nI c, nI g, f3, f4, B, cy, dy) → wY_drive_8 post p0 (nI g) f3 f4 B cy dy (m + 1) (nI j) (nI i) (nI c) := by
    intro cy dy M j c hc hd m
    induction m with
    | zero =>
      intro i hi post h
      rw [show i = L from by omega]
      exact endY cy dy 0 j c post h
    | succ m ih =>
      intro i hi post h
      refine br_f (nI_ge (b := 40) (by omega) (by decide)) (br_f (hp i (by omega)) (cn_dfY (nI c) f3 f4 M hc hg ?_))
      rw [hd]
      exact br_t rfl (nm_r (nI_1 i) (ih (i + 1) (by omega) post h))
  intro m
  induction m with
  | zero =>
    intro i c hi hc
    rw [show i = L from by omega]
    exact ⟨L, c, hc, fun post h => br_t (Int32.le_refl _) h, fun cy dy M post h => endY cy dy 0 L c post h⟩
  | succ m ih =>
    intro i c hi hc
    rcases cn_dr_p (k := k) (D := D) (g := g) (c := c) 4 0 rfl with hd | hd
    · refine ⟨i, c, hc, fun post h => ?_, fun cy dy M post h => idle cy dy M i c hc hd.1 (m + 1) i hi post h⟩
      refine br_f (nI_ge (by omega) (by omega)) (cn_dfX (nI c) f3 f4 M0 hc hg ?_)
      rw [hd.1]
      exact br_t rfl h
    · obtain ⟨hd4, z, e, _⟩ := hd
      obtain ⟨r, c', hc', hX, hY⟩ := ih (i + 1) (cn_nb c (cn_dr k D g c 4 0)) (by omega) e
      refine ⟨r, c', hc', fun post h => ?_, fun cy dy M post h => ?_⟩
      · refine br_f (nI_ge (by omega) (by omega)) (cn_dfX (nI c) f3 f4 M0 hc hg ?_)
        rw [cn_e4_t hd4]
        refine br_f (cn_m4 (by omega)) (cn_nbX hc hd4 ?_)
        rw [cn_e_t e]
        exact nm_r (nI_1 i) (nm_r (nI_1 i) (hX post h))
      · refine br_f (nI_ge (b := 40) (by omega) (by decide)) (br_f (hp i (by omega)) (cn_dfY (nI c) f3 f4 M hc hg ?_))
        rw [cn_e4_t hd4]
        refine br_f (cn_m4 (by omega)) (cn_nbY _ hc hd4 ?_)
        rw [cn_e_t e]
        exact nm_r (nI_1 i) (nm_r (nI_1 i) (hY cy dy M post h))
/-! moves -/
theorem cn_mov {g : Nat} {B cx dx cy0 dy0 : Nat → Int32} {k D : Nat → Nat} (f1 f3 f4 : Int32) (M0 : cn_Ms B k g D cx dx cy0 dy0) (hg : g < 81) :
    ∀ m i c, i + m = 81 → c < 81 → D c < 1000000 → ∃ r : Int32, (∀ post : Int32 → SX → Prop, post r (f1, nI g, f3, f4, B, cx, dx) → wX_moves_30 post f1 (nI g) f3 f4 B cx dx (m + 1) (nI c) (nI i) (nI i)) ∧
      (∀ cy dy, cn_Ms B k g D cx dx cy dy → ∀ post : Int32 → SY → Prop, post r (f1, nI g, f3, f4, B, cy, dy) → wY_moves_28 post f1 (nI g) f3 f4 B cy dy (m + 1) (nI c) (nI i)) := by
  intro m
  induction m with
  | zero =>
    intro i c hi hc hD
    have h81 : (81 : Int32) ≤ nI i := nI_le (a := 81) (by omega) (by omega)
    exact ⟨nI i, fun post h => br_t h81 h, fun cy dy M post h => br_t h81 h⟩
  | succ m ih =>
    intro i c hi hc hD
    have h81 : ¬ (81 : Int32) ≤ nI i := nI_ge (b := 81) (by omega) (by decide)
    by_cases q : c = g
    · refine ⟨nI i, fun post h => br_f h81 (cn_dfX f1 f3 f4 M0 hc hg ?_), fun cy dy M post h => br_f h81 (br_t (by rw [q]) h)⟩
      rw [cn_dr_no (Or.inl q)]
      exact br_t rfl h
    · rcases cn_dr_p (k := k) (D := D) (g := g) (c := c) 4 0 rfl with hd | hd
      · obtain ⟨d, hd4, a1, a2, a3⟩ := M0.1.2.2 c hc q hD
        exact absurd ⟨⟨q, hD⟩, a1, a2, a3⟩ (hd.2 d (Nat.zero_le d) hd4)
      · obtain ⟨hd4, z, e, e2, _⟩ := hd
        obtain ⟨r, hX, hY⟩ := ih (i + 1) (cn_nb c (cn_dr k D g c 4 0)) (by omega) e e2
        refine ⟨r, fun post h => ?_, fun cy dy M post h => ?_⟩
        · refine br_f h81 (cn_dfX f1 f3 f4 M0 hc hg ?_)
          rw [cn_e4_t hd4]
          refine br_f (cn_m4 (by omega)) (cn_nbX hc hd4 ?_)
          rw [cn_e_t e]
          exact nm_r (nI_1 i) (nm_r (nI_1 i) (hX post h))
        · refine br_f h81 (br_f (fun w => q ((nI_eq (by omega) (by omega)).mp w)) (cn_dfY f1 f3 f4 M hc hg ?_))
          rw [cn_e4_t hd4]
          refine cn_nbY _ hc hd4 ?_
          rw [cn_e_t e]
          exact nm_r (nI_1 i) (hY cy dy M post h)
/-! reached, farthest -/
theorem cn_rea {g : Nat} {B cx dx cy0 dy0 : Nat → Int32} {k D : Nat → Nat} (f1 f2 f3 f4 : Int32) (M0 : cn_Ms B k g D cx dx cy0 dy0) :
    ∀ m i (a : Int32), i + m = 81 → ∃ r : Int32, (∀ post : Int32 → SX → Prop, post r (f1, f2, f3, f4, B, cx, dx) → wX_reached_8 post f1 f2 f3 f4 B cx dx (m + 1) a (nI i)) ∧
      (∀ cy dy, (∀ j, j < 81 → dy j = nI (D j)) → ∀ post : Int32 → SY → Prop, post r (f1, f2, f3, f4, B, cy, dy) → wY_reached_8 post f1 f2 f3 f4 B cy dy (m + 1) a (nI i)) := by
  obtain ⟨⟨o1, o2, o3⟩, hk, hcx, hdx, _, _⟩ := M0
  intro m
  induction m with
  | zero =>
    intro i a hi
    have h81 : (81 : Int32) ≤ nI i := nI_le (a := 81) (by omega) (by omega)
    exact ⟨a, fun post h => br_t h81 h, fun cy dy hdy post h => br_t h81 h⟩
  | succ m ih =>
    intro i a hi
    have h81 : ¬ (81 : Int32) ≤ nI i := nI_ge (b := 81) (by omega) (by decide)
    have ci : (nI i).toNatClampNeg = i := nI_clamp (by omega)
    have vi : vp_in (nI i) 81 := vp_in_nI (by omega) (by decide)
    have o := o1 i (by omega)
    by_cases e : D i < 1000000
    · obtain ⟨r, hX, hY⟩ := ih (i + 1) (a + 1) (by omega)
      refine ⟨r, fun post h => br_f h81 ⟨vi, ?_⟩, fun cy dy hdy post h => br_f h81 ⟨vi, ?_⟩⟩
      · rw [ci, hdx i (by omega), cn_ex_t e]
        exact br_f (cn_m4 (by omega)) (nm_e (nm_r (nI_1 i) (hX post h)))
      · rw [ci, hdy i (by omega)]
        exact br_f (nI_ge (b := 1000000) e (by decide)) (nm_e (nm_r (nI_1 i) (hY cy dy hdy post h)))
    · obtain ⟨r, hX, hY⟩ := ih (i + 1) a (by omega)
      refine ⟨r, fun post h => br_f h81 ⟨vi, ?_⟩, fun cy dy hdy post h => br_f h81 ⟨vi, ?_⟩⟩
      · rw [ci, hdx i (by omega), cn_ex_f e]
        exact br_t rfl (nm_r (nI_1 i) (hX post h))
      · rw [ci, hdy i (by omega)]
        exact br_t (nI_le (a := 1000000) (by omega) (by omega)) (nm_r (nI_1 i) (hY cy dy hdy post h))
theorem cn_m4_le (n : Nat) (h : n < 2 ^ 31) : (-4 : Int32) ≤ nI n := by
  rw [Int32.le_iff_toInt_le, nI_toInt h, show (-4 : Int32).toInt = -4 from by decide]
  omega
theorem cn_fth {g : Nat} {B cx dx cy0 dy0 : Nat → Int32} {k D : Nat → Nat} (f1 f2 f3 f4 : Int32) (M0 : cn_Ms B k g D cx dx cy0 dy0) :
    ∀ m i (a : Int32), i + m = 81 → (-4 : Int32) ≤ a → ∃ r : Int32, (∀ post : Int32 → SX → Prop, post r (f1, f2, f3, f4, B, cx, dx) → wX_farthest_9 post f1 f2 f3 f4 B cx dx (m + 1) a (nI i)) ∧
      (∀ cy dy, (∀ j, j < 81 → dy j = nI (D j)) → ∀ post : Int32 → SY → Prop, post r (f1, f2, f3, f4, B, cy, dy) → wY_farthest_9 post f1 f2 f3 f4 B cy dy (m + 1) a (nI i)) := by
  obtain ⟨⟨o1, o2, o3⟩, hk, hcx, hdx, _, _⟩ := M0
  intro m
  induction m with
  | zero =>
    intro i a hi ha
    have h81 : (81 : Int32) ≤ nI i := nI_le (a := 81) (by omega) (by omega)
    exact ⟨a, fun post h => br_t h81 h, fun cy dy hdy post h => br_t h81 h⟩
  | succ m ih =>
    intro i a hi ha
    have h81 : ¬ (81 : Int32) ≤ nI i := nI_ge (b := 81) (by omega) (by decide)
    have ci : (nI i).toNatClampNeg = i := nI_clamp (by omega)
    have vi : vp_in (nI i) 81 := vp_in_nI (by omega) (by decide)
    have o := o1 i (by omega)
    by_cases e : D i < 1000000
    · by_cases z : nI (D i) ≤ a
      · obtain ⟨r, hX, hY⟩ := ih (i + 1) a (by omega) ha
        refine ⟨r, fun post h => br_f h81 ⟨vi, ?_⟩, fun cy dy hdy post h => br_f h81 ⟨vi, ?_⟩⟩
        · rw [ci, hdx i (by omega), cn_ex_t e]
          exact br_t z (nm_r (nI_1 i) (hX post h))
        · rw [ci, hdy i (by omega)]
          exact br_f (nI_ge (b := 1000000) e (by decide)) ⟨vi, br_t z (nm_r (nI_1 i) (hY cy dy hdy post h))⟩
      · obtain ⟨r, hX, hY⟩ := ih (i + 1) (nI (D i)) (by omega) (cn_m4_le _ (by omega))
        refine ⟨r, fun post h => br_f h81 ⟨vi, ?_⟩, fun cy dy hdy post h => br_f h81 ⟨vi, ?_⟩⟩
        · rw [ci, hdx i (by omega), cn_ex_t e]
          exact br_f z ⟨vi, nm_e (nm_r (nI_1 i) (hX post h))⟩
        · rw [ci, hdy i (by omega)]
          exact br_f (nI_ge (b := 1000000) e (by decide)) ⟨vi, br_f z ⟨vi, nm_e (nm_r (nI_1 i) (hY cy dy hdy post h))⟩⟩
    · obtain ⟨r, hX, hY⟩ := ih (i + 1) a (by omega) ha
      refine ⟨r, fun post h => br_f h81 ⟨vi, ?_⟩, fun cy dy hdy post h => br_f h81 ⟨vi, ?_⟩⟩
      · rw [ci, hdx i (by omega), cn_ex_f e]
        exact br_t ha (nm_r (nI_1 i) (hX post h))
      · rw [ci, hdy i (by omega)]
        exact br_t (nI_le (a := 1000000) (by omega) (by omega)) (nm_r (nI_1 i) (hY cy dy hdy post h))
end
section
/-! wall: both loops in step; the reference goes on idly behind the edge -/
theorem cn_w108 {post : Int32 → SY → Prop} {J : Int32 → Int32 → (Nat → Int32) → (Nat → Int32) → (Nat → Int32) → Prop} (x1 x2 x3 x4 x5 z : Int32) (hz : (x3 ≤ 0 ∧ z = 0) ∨ (¬ x3 ≤ 0 ∧ z = 1)) {i d : Nat} (hd : d < 81) (f1 f2 f3 f4 : Int32) (B cy dy : Nat → Int32)
    (h1 : B d = z → J x5 (nI (i + 1)) B cy dy) (h2 : ¬ B d = z → J (x5 + 1) (nI (i + 1)) (upd B d (vp_nar .boolean z)) cy dy) : wY_wall_108 post J x1 x2 x3 x4 x5 (nI i) 1 (nI d) f1 f2 f3 f4 B cy dy := by
  have ci : (nI d).toNatClampNeg = d := nI_clamp (by omega)
  have vd : vp_in (nI d) 81 := vp_in_nI hd (by decide)
  refine br_f (by decide) ⟨vd, ?_⟩
  rw [ci]
  rcases hz with ⟨a, rfl⟩ | ⟨a, rfl⟩
  · refine br_t a (br_c (fun e => nm_r (nI_1 i) (h1 e)) (fun e => br_t a ⟨vd, ?_⟩))
    rw [ci]
    exact nm_e (nm_e (nm_r (nI_1 i) (h2 e)))
  · refine br_f a (br_c (fun e => nm_r (nI_1 i) (h1 e)) (fun e => br_f a ⟨vd, ?_⟩))
    rw [ci]
    exact nm_e (nm_e (nm_r (nI_1 i) (h2 e)))
theorem cn_wYin {post : Int32 → SY → Prop} {c size stp room i n : Nat} {v2 v3 z x5 : Int32} (hc : c < 81) (hs : size ≤ 9) (hz : (v3 ≤ 0 ∧ z = 0) ∨ (¬ v3 ≤ 0 ∧ z = 1)) (hdn : (v2 = 0 ∧ stp = 1 ∧ room = 9 - c % 9) ∨ (¬ v2 = 0 ∧ stp = 9 ∧ room = 9 - c / 9)) (hi : i < size) (hr : i < room) (f1 f2 f3 f4 : Int32) (B cy dy : Nat → Int32)
    (h1 : B (c + i * stp) = z → wY_wall_40 post (nI c) v2 v3 (nI size) f1 f2 f3 f4 n x5 (nI (i + 1)) B cy dy)
    (h2 : ¬ B (c + i * stp) = z → wY_wall_40 post (nI c) v2 v3 (nI size) f1 f2 f3 f4 n (x5 + 1) (nI (i + 1)) (upd B (c + i * stp) (vp_nar .boolean z)) cy dy) : wY_wall_40 post (nI c) v2 v3 (nI size) f1 f2 f3 f4 (n + 1) x5 (nI i) B cy dy := by
  have r1 : nI c - nI c / 9 * 9 = nI (c % 9) := pk_rem (d := 9) (by omega) (by decide) (by decide)
  have d1 : nI c / 9 = nI (c / 9) := pk_div (d := 9) (by omega) (by decide) (by decide)
  refine br_f (nI_ge hi (by omega)) ?_
  rcases hdn with ⟨h, rfl, rfl⟩ | ⟨h, rfl, rfl⟩
  · refine br_t h ⟨by decide, ?_⟩
    rw [r1, nI_add]
    refine br_f (nI_ge (b := 9) (by omega) (by decide)) (br_t h ?_)
    rw [nI_add]
    rw [Nat.mul_one] at h1 h2
    exact cn_w108 _ _ _ _ _ z hz (by omega) _ _ _ _ _ _ _ h1 h2
  · refine br_f h ⟨by decide, ?_⟩
    rw [d1, nI_add]
    refine br_f (nI_ge (b := 9) (by omega) (by decide)) (br_f h ?_)
    rw [show nI c + 9 * nI i = nI (c + i * 9) from by rw [show (9 : Int32) * nI i = nI (9 * i) from pk_mul 9 i, nI_add, Nat.mul_comm]]
    exact cn_w108 _ _ _ _ _ z hz (by omega) _ _ _ _ _ _ _ h1 h2
theorem cn_wYout {post : Int32 → SY → Prop} {c size stp room i n : Nat} {v2 v3 x5 : Int32} (hc : c < 81) (hs : size ≤ 9) (hdn : (v2 = 0 ∧ stp = 1 ∧ room = 9 - c % 9) ∨ (¬ v2 = 0 ∧ stp = 9 ∧ room = 9 - c / 9)) (hi : i < size) (hr : room ≤ i) (f1 f2 f3 f4 : Int32) (B cy dy : Nat → Int32)
    (h1 : wY_wall_40 post (nI c) v2 v3 (nI size) f1 f2 f3 f4 n x5 (nI (i + 1)) B cy dy) : wY_wall_40 post (nI c) v2 v3 (nI size) f1 f2 f3 f4 (n + 1) x5 (nI i) B cy dy := by
  have r1 : nI c - nI c / 9 * 9 = nI (c % 9) := pk_rem (d := 9) (by omega) (by decide) (by decide)
  have d1 : nI c / 9 = nI (c / 9) := pk_div (d := 9) (by omega) (by decide) (by decide)
  refine br_f (nI_ge hi (by omega)) ?_
  rcases hdn with ⟨h, rfl, rfl⟩ | ⟨h, rfl, rfl⟩
  · refine br_t h ⟨by decide, ?_⟩
    rw [r1, nI_add]
    exact br_t (nI_le (a := 9) (by omega) (by omega)) (br_t h (br_t rfl (nm_r (nI_1 i) h1)))
  · refine br_f h ⟨by decide, ?_⟩
    rw [d1, nI_add]
    exact br_t (nI_le (a := 9) (by omega) (by omega)) (br_f h (br_t rfl (nm_r (nI_1 i) h1)))
theorem cn_wal {c size stp room Len : Nat} {v2 v3 z : Int32} (hc : c < 81) (hs : size ≤ 9) (hz : (v3 ≤ 0 ∧ z = 0) ∨ (¬ v3 ≤ 0 ∧ z = 1)) (hdn : (v2 = 0 ∧ stp = 1 ∧ room = 9 - c % 9) ∨ (¬ v2 = 0 ∧ stp = 9 ∧ room = 9 - c / 9))
    (hL : (Len = room ∧ room ≤ size) ∨ (Len = size ∧ size ≤ room)) (f1 f2 f3 f4 : Int32) (cx dx cy dy : Nat → Int32) :
    ∀ m i (a : Int32) (B : Nat → Int32), i + m = Len → ∃ (r : Int32) (B' : Nat → Int32), (∀ post : Int32 → SX → Prop, post r (f1, f2, f3, f4, B', cx, dx) → wX_wall_102 post (nI c) z (nI Len) (nI stp) f1 f2 f3 f4 (m + 1) a (nI i) B cx dx) ∧
      (∀ post : Int32 → SY → Prop, post r (f1, f2, f3, f4, B', cy, dy) → wY_wall_40 post (nI c) v2 v3 (nI size) f1 f2 f3 f4 (size - Len + 1 + m) a (nI i) B cy dy) := by
  have idle : ∀ (e i : Nat) (a : Int32) (B : Nat → Int32), i + e = size → room ≤ i ∨ e = 0 → ∀ post : Int32 → SY → Prop, post a (f1, f2, f3, f4, B, cy, dy) → wY_wall_40 post (nI c) v2 v3 (nI size) f1 f2 f3 f4 (e + 1) a (nI i) B cy dy := by
    intro e
    induction e with
    | zero =>
      intro i a B hi _ post h
      exact br_t (nI_le (by omega) (by omega)) h
    | succ e ih =>
      intro i a B hi hr post h
      exact cn_wYout hc hs hdn (by omega) (by omega) f1 f2 f3 f4 B cy dy (ih (i + 1) a B (by omega) (Or.inl (by omega)) post h)
  intro m
  induction m with
  | zero =>
    intro i a B hi
    refine ⟨a, B, fun post h => br_t (nI_le (by omega) (by omega)) h, fun post h => idle (size - Len) i a B (by omega) (by omega) post h⟩
  | succ m ih =>
    intro i a B hi
    have hcell : c + i * stp < 81 := by
      rcases hdn with ⟨h, rfl, rfl⟩ | ⟨h, rfl, rfl⟩ <;> omega
    have ci : (nI (c + i * stp)).toNatClampNeg = c + i * stp := nI_clamp (by omega)
    have vi : vp_in (nI (c + i * stp)) 81 := vp_in_nI hcell (by decide)
    have ec : nI c + nI i * nI stp = nI (c + i * stp) := by rw [pk_mul, nI_add]
    by_cases e : B (c + i * stp) = z
    · obtain ⟨r, B', hX, hY⟩ := ih (i + 1) a B (by omega)
      refine ⟨r, B', fun post h => br_f (nI_ge (by omega) (by omega)) (nm_r ec ⟨vi, ?_⟩), fun post h => ?_⟩
      · rw [ci]
        exact br_t e (nm_r (nI_1 i) (hX post h))
      · exact cn_wYin hc hs hz hdn (by omega) (by omega) f1 f2 f3 f4 B cy dy (fun _ => hY post h) (fun z => absurd e z)
    · obtain ⟨r, B', hX, hY⟩ := ih (i + 1) (a + 1) (upd B (c + i * stp) (vp_nar .boolean z)) (by omega)
      refine ⟨r, B', fun post h => br_f (nI_ge (by omega) (by omega)) (nm_r ec ⟨vi, ?_⟩), fun post h => ?_⟩
      · rw [ci]
        exact br_f e ⟨vi, nm_e (nm_e (nm_r (nI_1 i) (hX post h)))⟩
      · exact cn_wYin hc hs hz hdn (by omega) (by omega) f1 f2 f3 f4 B cy dy (fun z => absurd z e) (fun _ => hY post h)
theorem cn_w2 {c w : Nat} {v2 v3 z : Int32} (hc : c < 81) (hs : w ≤ 9) (hz : (v3 ≤ 0 ∧ z = 0) ∨ (¬ v3 ≤ 0 ∧ z = 1)) (f1 f2 f3 f4 : Int32) (B cx dx cy dy : Nat → Int32) :
    ∃ (r : Int32) (B' : Nat → Int32), (∀ post : Int32 → SX → Prop, post r (f1, f2, f3, f4, B', cx, dx) → wX_wall_43 post (nI c) v2 z (nI w) f1 f2 f3 f4 B cx dx) ∧
      (∀ post : Int32 → SY → Prop, post r (f1, f2, f3, f4, B', cy, dy) → ∃ n, wY_wall_40 post (nI c) v2 v3 (nI w) f1 f2 f3 f4 n 0 0 B cy dy) := by
  have r1 : nI c - nI c / 9 * 9 = nI (c % 9) := pk_rem (d := 9) (by omega) (by decide) (by decide)
  have d1 : nI c / 9 = nI (c / 9) := pk_div (d := 9) (by omega) (by decide) (by decide)
  by_cases h : v2 = 0
  · have e9 : (9 : Int32) - nI (c % 9) = nI (9 - c % 9) := pk_sub (a := 9) (by omega)
    by_cases q : 9 - c % 9 ≤ w
    · obtain ⟨r, B', hX, hY⟩ := cn_wal (stp := 1) hc hs hz (Or.inl ⟨h, rfl, rfl⟩) (Or.inl ⟨rfl, q⟩) f1 f2 f3 f4 cx dx cy dy (9 - c % 9) 0 0 B (by omega)
      refine ⟨r, B', fun post hp => br_t h ⟨by decide, ?_⟩, fun post hp => ⟨_, hY post hp⟩⟩
      rw [r1, e9]
      exact br_t (nI_le q (by omega)) (br_t h ⟨_, hX post hp⟩)
    · obtain ⟨r, B', hX, hY⟩ := cn_wal (stp := 1) (Len := w) hc hs hz (Or.inl ⟨h, rfl, rfl⟩) (Or.inr ⟨rfl, by omega⟩) f1 f2 f3 f4 cx dx cy dy w 0 0 B (by omega)
      refine ⟨r, B', fun post hp => br_t h ⟨by decide, ?_⟩, fun post hp => ⟨_, hY post hp⟩⟩
      rw [r1, e9]
      exact br_f (nI_ge (by omega) (by omega)) (br_t h ⟨_, hX post hp⟩)
  · have e9 : (9 : Int32) - nI (c / 9) = nI (9 - c / 9) := pk_sub (a := 9) (by omega)
    by_cases q : 9 - c / 9 ≤ w
    · obtain ⟨r, B', hX, hY⟩ := cn_wal (stp := 9) hc hs hz (Or.inr ⟨h, rfl, rfl⟩) (Or.inl ⟨rfl, q⟩) f1 f2 f3 f4 cx dx cy dy (9 - c / 9) 0 0 B (by omega)
      refine ⟨r, B', fun post hp => br_f h ⟨by decide, ?_⟩, fun post hp => ⟨_, hY post hp⟩⟩
      rw [d1, e9]
      exact br_t (nI_le q (by omega)) (br_f h ⟨_, hX post hp⟩)
    · obtain ⟨r, B', hX, hY⟩ := cn_wal (stp := 9) (Len := w) hc hs hz (Or.inr ⟨h, rfl, rfl⟩) (Or.inr ⟨rfl, by omega⟩) f1 f2 f3 f4 cx dx cy dy w 0 0 B (by omega)
      refine ⟨r, B', fun post hp => br_f h ⟨by decide, ?_⟩, fun post hp => ⟨_, hY post hp⟩⟩
      rw [d1, e9]
      exact br_f (nI_ge (by omega) (by omega)) (br_f h ⟨_, hX post hp⟩)
theorem cn_neg {v : Int32} (h1 : ¬ v < -9) (h2 : v ≤ 0) : ∃ w : Nat, w ≤ 9 ∧ -v = nI w ∧ (0 ≤ v → v = nI w) := by
  rw [Int32.lt_iff_toInt_lt, show (-9 : Int32).toInt = -9 from by decide] at h1
  rw [Int32.le_iff_toInt_le, show (0 : Int32).toInt = 0 from by decide] at h2
  have hn : (-v).toInt = -v.toInt := by
    rw [Int32.toInt_neg]
    exact Int.bmod_eq_of_le (by omega) (by omega)
  have a : ¬ (-v) < 0 := by
    rw [Int32.lt_iff_toInt_lt, hn, show (0 : Int32).toInt = 0 from by decide]; omega
  have b : (-v) ≤ 9 := by
    rw [Int32.le_iff_toInt_le, hn, show (9 : Int32).toInt = 9 from by decide]; omega
  obtain ⟨w, hw, e⟩ := nI_of2 (n := 9) (show (9 : Int32).toInt = 9 from by decide) a b
  refine ⟨w, hw, e, fun h0 => ?_⟩
  rw [Int32.le_iff_toInt_le, show (0 : Int32).toInt = 0 from by decide] at h0
  apply Int32.toInt_inj.mp
  rw [← e, hn]
  omega
end
section
/-! what is owed -/
/-- both sides hold the same obstacles, cells, radius and gain; costs and distances are measured anew before they are read -/
def i_Rel (_ : Nat) (u : SX) (v : SY) : Prop := ∃ (r g R G : Nat) (B cx dx cy dy : Nat → Int32), r < 81 ∧ g < 81 ∧ R ≤ 3 ∧ G ≤ 9 ∧ u = (nI r, nI g, nI R, nI G, B, cx, dx) ∧ v = (nI r, nI g, nI R, nI G, B, cy, dy)
theorem cn_rel {r g R G : Nat} {B cx dx cy dy : Nat → Int32} (hr : r < 81) (hg : g < 81) (hR : R ≤ 3) (hG : G ≤ 9) {k : Nat} : i_Rel k (nI r, nI g, nI R, nI G, B, cx, dx) (nI r, nI g, nI R, nI G, B, cy, dy) := ⟨r, g, R, G, B, cx, dx, cy, dy, hr, hg, hR, hG, rfl, rfl⟩
theorem cn_mk {g R G : Nat} {B cx dx cy dy : Nat → Int32} (hR : R ≤ 3) (hG : G ≤ 9) (h1 : ∀ j, j < 81 → cx j = cn_K B R G j) (h2 : ∀ j, j < 81 → dx j = cn_ex ((cn_rn B (cn_k B R G) (cn_D0 B g) 81).2 j)) (h3 : ∀ j, j < 81 → cy j = cn_K B R G j) (h4 : ∀ j, j < 81 → dy j = nI ((cn_rn B (cn_k B R G) (cn_D0 B g) 81).2 j)) :
    cn_Ms B (cn_k B R G) g (cn_rn B (cn_k B R G) (cn_D0 B g) 81).2 cx dx cy dy :=
  ⟨cn_ok (cn_k_in B hR hG) g, cn_k_in B hR hG, fun j hj hB => (h1 j hj).trans (cn_K_k hB), h2, fun j hj hB => (h3 j hj).trans (cn_K_k hB), h4⟩
theorem cn_mk0 {g R G : Nat} {B cx dx : Nat → Int32} (hR : R ≤ 3) (hG : G ≤ 9) (h1 : ∀ j, j < 81 → cx j = cn_K B R G j) (h2 : ∀ j, j < 81 → dx j = cn_ex ((cn_rn B (cn_k B R G) (cn_D0 B g) 81).2 j)) :
    cn_Ms B (cn_k B R G) g (cn_rn B (cn_k B R G) (cn_D0 B g) 81).2 cx dx (fun j => cn_K B R G j) (fun j => nI ((cn_rn B (cn_k B R G) (cn_D0 B g) 81).2 j)) := cn_mk hR hG h1 h2 (fun _ _ => rfl) (fun _ _ => rfl)
theorem i_up {k : Nat} {u : SX} {v : SY} (h : i_Rel k u v) : i_Rel (k + 4) u v := h
theorem i_vc0 : wpX_init (fun u => wpY_init (fun v => i_Rel 0 u v)) := cn_rel (k := 0) (r := 0) (g := 80) (R := 1) (G := 3) (by decide) (by decide) (by decide) (by decide)
theorem i_vc_block {k : Nat} {u : SX} {v : SY} (I : i_Rel k u v) (hk : k + 4 ≤ 2048) (v1 : Int32) (v2 : Int32) : wpX_block (fun r u' => wpY_block (fun r' v' => r' = r ∧ i_Rel (k + 4) u' v') v v1 v2) u v1 v2 := by
  obtain ⟨r, g, R, G, B, cx, dx, cy, dy, hr, hg, hR, hG, rfl, rfl⟩ := I
  unfold wpX_block wpY_block
  dsimp only
  rcases cn_cell v1 with hb | ⟨c, hc, rfl⟩
  · exact cn_outX hb (br_t rfl (cn_outY _ hb (br_t rfl ⟨rfl, cn_rel hr hg hR hG⟩)))
  · have vi : vp_in (nI c) 81 := vp_in_nI hc (by decide)
    refine cn_inX hc (br_f (by decide) ⟨vi, ?_⟩)
    by_cases e : B (nI c).toNatClampNeg = 0
    · by_cases e2 : v2 = 0
      · exact br_t e (br_t e2 ⟨vi, nm_e (cn_inY _ hc (br_f (by decide) ⟨vi, br_t e (br_t e2 ⟨vi, nm_e ⟨rfl, cn_rel hr hg hR hG⟩⟩)⟩))⟩)
      · exact br_t e (br_f e2 ⟨vi, nm_e (cn_inY _ hc (br_f (by decide) ⟨vi, br_t e (br_f e2 ⟨vi, nm_e ⟨rfl, cn_rel hr hg hR hG⟩⟩)⟩))⟩)
    · by_cases e2 : v2 = 0
      · exact br_f e (br_t e2 ⟨vi, nm_e (cn_inY _ hc (br_f (by decide) ⟨vi, br_f e (br_t e2 ⟨vi, nm_e ⟨rfl, cn_rel hr hg hR hG⟩⟩)⟩))⟩)
      · exact br_f e (br_f e2 ⟨vi, nm_e (cn_inY _ hc (br_f (by decide) ⟨vi, br_f e (br_f e2 ⟨vi, nm_e ⟨rfl, cn_rel hr hg hR hG⟩⟩)⟩))⟩)
theorem i_vc_wall {k : Nat} {u : SX} {v : SY} (I : i_Rel k u v) (hk : k + 4 ≤ 2048) (v1 : Int32) (v2 : Int32) (v3 : Int32) : wpX_wall (fun r u' => wpY_wall (fun r' v' => r' = r ∧ i_Rel (k + 4) u' v') v v1 v2 v3) u v1 v2 v3 := by
  obtain ⟨r, g, R, G, B, cx, dx, cy, dy, hr, hg, hR, hG, rfl, rfl⟩ := I
  unfold wpX_wall wpY_wall
  dsimp only
  rcases cn_cell v1 with hb | ⟨c, hc, rfl⟩
  · exact cn_outX hb (br_t rfl (cn_outY _ hb (br_t rfl ⟨rfl, cn_rel hr hg hR hG⟩)))
  · refine cn_inX hc (br_f (by decide) (br_c (fun h => ?_) (fun h => ?_)))
    · exact cn_inY _ hc (br_f (by decide) (br_t h ⟨rfl, cn_rel hr hg hR hG⟩))
    · refine br_c (fun h9 => ?_) (fun h9 => ?_)
      · refine br_c (fun h0 => ?_) (fun h0 => ?_)
        · obtain ⟨w, hw, e1, e2⟩ := cn_neg h h0
          obtain ⟨a, B', hX, hY⟩ := cn_w2 (z := 0) (v2 := v2) hc hw (Or.inl ⟨h0, rfl⟩) (nI r) (nI g) (nI R) (nI G) B cx dx cy dy
          refine br_t rfl ?_
          rw [e1]
          refine hX _ (cn_inY _ hc (br_f (by decide) (br_f h (br_t h9 (br_c (fun z => ?_) (fun z => ?_))))))
          · have := hY (fun r' v' => r' = a ∧ i_Rel (k + 4) (nI r, nI g, nI R, nI G, B', cx, dx) v') ⟨rfl, cn_rel hr hg hR hG⟩
            rw [← e2 z] at this
            exact this
          · exact nm_e (hY _ ⟨rfl, cn_rel hr hg hR hG⟩)
        · have n0 : ¬ v3 < 0 := fun z => h0 (Int32.le_of_lt z)
          obtain ⟨w, hw, e1⟩ := nI_of2 (n := 9) (show (9 : Int32).toInt = 9 from by decide) n0 h9
          obtain ⟨a, B', hX, hY⟩ := cn_w2 (z := 1) (v2 := v2) hc hw (Or.inr ⟨h0, rfl⟩) (nI r) (nI g) (nI R) (nI G) B cx dx cy dy
          refine br_f (by decide) ?_
          subst e1
          refine hX _ (cn_inY _ hc (br_f (by decide) (br_f h (br_t h9 (br_t (Int32.not_lt.mp n0) (hY _ ⟨rfl, cn_rel hr hg hR hG⟩))))))
      · exact cn_inY _ hc (br_f (by decide) (br_f h (br_f h9 ⟨rfl, cn_rel hr hg hR hG⟩)))
theorem i_vc_tune {k : Nat} {u : SX} {v : SY} (I : i_Rel k u v) (hk : k + 4 ≤ 2048) (v1 : Int32) (v2 : Int32) : wpX_tune (fun r u' => wpY_tune (fun r' v' => r' = r ∧ i_Rel (k + 4) u' v') v v1 v2) u v1 v2 := by
  obtain ⟨r, g, R, G, B, cx, dx, cy, dy, hr, hg, hR, hG, rfl, rfl⟩ := I
  have J : i_Rel (k + 4) (nI r, nI g, nI R, nI G, B, cx, dx) (nI r, nI g, nI R, nI G, B, cy, dy) := cn_rel hr hg hR hG
  refine br_c (fun h1 => br_t h1 ⟨rfl, J⟩) (fun h1 => br_c (fun h2 => br_f h1 (br_t h2 ⟨rfl, J⟩)) (fun h2 => br_c (fun h3 => br_f h1 (br_f h2 (br_t h3 ⟨rfl, J⟩))) (fun h3 => br_c (fun h4 => br_f h1 (br_f h2 (br_f h3 (br_t h4 ⟨rfl, ?_⟩)))) (fun h4 => br_f h1 (br_f h2 (br_f h3 (br_f h4 ⟨rfl, J⟩)))))))
  obtain ⟨a, ha, rfl⟩ := nI_of2 (n := 3) (show (3 : Int32).toInt = 3 from by decide) h1 (Int32.not_lt.mp h2)
  obtain ⟨b, hb, rfl⟩ := nI_of2 (n := 9) (show (9 : Int32).toInt = 9 from by decide) h3 h4
  exact cn_rel hr hg ha hb
theorem i_vc_place {k : Nat} {u : SX} {v : SY} (I : i_Rel k u v) (hk : k + 4 ≤ 2048) (v1 : Int32) : wpX_place (fun r u' => wpY_place (fun r' v' => r' = r ∧ i_Rel (k + 4) u' v') v v1) u v1 := by
  obtain ⟨r, g, R, G, B, cx, dx, cy, dy, hr, hg, hR, hG, rfl, rfl⟩ := I
  unfold wpX_place wpY_place
  dsimp only
  rcases cn_cell v1 with hb | ⟨c, hc, rfl⟩
  · exact cn_outX hb (br_t rfl (cn_outY _ hb (br_t rfl ⟨rfl, cn_rel hr hg hR hG⟩)))
  · exact cn_inX hc (br_f (by decide) (cn_inY _ hc (br_f (by decide) ⟨rfl, cn_rel hc hg hR hG⟩)))
theorem i_vc_goal {k : Nat} {u : SX} {v : SY} (I : i_Rel k u v) (hk : k + 4 ≤ 2048) (v1 : Int32) : wpX_goal (fun r u' => wpY_goal (fun r' v' => r' = r ∧ i_Rel (k + 4) u' v') v v1) u v1 := by
  obtain ⟨r, g, R, G, B, cx, dx, cy, dy, hr, hg, hR, hG, rfl, rfl⟩ := I
  unfold wpX_goal wpY_goal
  dsimp only
  rcases cn_cell v1 with hb | ⟨c, hc, rfl⟩
  · exact cn_outX hb (br_t rfl (cn_outY _ hb (br_t rfl ⟨rfl, cn_rel hr hg hR hG⟩)))
  · exact cn_inX hc (br_f (by decide) (cn_inY _ hc (br_f (by decide) ⟨rfl, cn_rel hr hc hR hG⟩)))
theorem i_vc_blocked {k : Nat} {u : SX} {v : SY} (I : i_Rel k u v) (hk : k + 4 ≤ 2048) (v1 : Int32) : wpX_blocked (fun r => wpY_blocked (fun r' => r' = r ∧ i_Rel (k + 4) u v) v v1) u v1 := by
  obtain ⟨r, g, R, G, B, cx, dx, cy, dy, hr, hg, hR, hG, rfl, rfl⟩ := I
  have J : i_Rel (k + 4) (nI r, nI g, nI R, nI G, B, cx, dx) (nI r, nI g, nI R, nI G, B, cy, dy) := cn_rel hr hg hR hG
  unfold wpX_blocked wpY_blocked
  dsimp only
  rcases cn_cell v1 with hb | ⟨c, hc, rfl⟩
  · exact cn_outX hb (br_t rfl (cn_outY _ hb (br_t rfl ⟨rfl, J⟩)))
  · have vi : vp_in (nI c) 81 := vp_in_nI hc (by decide)
    exact cn_inX hc (br_f (by decide) ⟨vi, br_c (fun e => cn_inY _ hc (br_f (by decide) ⟨vi, br_t e ⟨rfl, J⟩⟩)) (fun e => cn_inY _ hc (br_f (by decide) ⟨vi, br_f e ⟨rfl, J⟩⟩))⟩)
theorem i_vc_clearance {k : Nat} {u : SX} {v : SY} (I : i_Rel k u v) (hk : k + 4 ≤ 2048) (v1 : Int32) : wpX_clearance (fun r => wpY_clearance (fun r' => r' = r ∧ i_Rel (k + 4) u v) v v1) u v1 := by
  obtain ⟨r, g, R, G, B, cx, dx, cy, dy, hr, hg, hR, hG, rfl, rfl⟩ := I
  have J : i_Rel (k + 4) (nI r, nI g, nI R, nI G, B, cx, dx) (nI r, nI g, nI R, nI G, B, cy, dy) := cn_rel hr hg hR hG
  unfold wpX_clearance
  dsimp only
  rcases cn_cell v1 with hb | ⟨c, hc, rfl⟩
  · refine cn_outX hb (br_t rfl ?_)
    unfold wpY_clearance
    dsimp only
    exact cn_outY _ hb (br_t rfl ⟨rfl, J⟩)
  · exact cn_inX hc (br_f (by decide) (cn_clX _ _ _ _ _ _ _ hc (cn_clY _ _ _ _ _ _ _ hc ⟨rfl, J⟩)))
theorem i_vc_cost {k : Nat} {u : SX} {v : SY} (I : i_Rel k u v) (hk : k + 4 ≤ 2048) (v1 : Int32) : wpX_cost (fun r => wpY_cost (fun r' => r' = r ∧ i_Rel (k + 4) u v) v v1) u v1 := by
  obtain ⟨r, g, R, G, B, cx, dx, cy, dy, hr, hg, hR, hG, rfl, rfl⟩ := I
  have J : i_Rel (k + 4) (nI r, nI g, nI R, nI G, B, cx, dx) (nI r, nI g, nI R, nI G, B, cy, dy) := cn_rel hr hg hR hG
  unfold wpX_cost
  dsimp only
  rcases cn_cell v1 with hb | ⟨c, hc, rfl⟩
  · refine cn_outX hb (br_t rfl ?_)
    unfold wpY_cost
    dsimp only
    exact cn_outY _ hb (br_t rfl ⟨rfl, J⟩)
  · exact cn_inX hc (br_f (by decide) (cn_coX _ _ _ _ _ _ _ hc hR (cn_coY _ _ _ _ _ _ _ hc hR ⟨rfl, J⟩)))
theorem i_vc_distance {k : Nat} {u : SX} {v : SY} (I : i_Rel k u v) (hk : k + 4 ≤ 2048) : wpX_distance (fun r u' => wpY_distance (fun r' v' => r' = r ∧ i_Rel (k + 4) u' v') v) u := by
  obtain ⟨r, g, R, G, B, cx, dx, cy, dy, hr, hg, hR, hG, rfl, rfl⟩ := I
  have vi : vp_in (nI r) 81 := vp_in_nI hr (by decide)
  have ci : (nI r).toNatClampNeg = r := nI_clamp (by omega)
  unfold wpX_distance wpY_distance wpY_distanceFrom
  dsimp only
  refine cn_msX _ g R G B cx dx hg hR hG (fun cx' dx' hcx hdx => ⟨vi, cn_inY _ hr (br_f (by decide) (cn_msY _ g R G B cy dy hg hR hG (fun cy' dy' hcy hdy => ⟨vi, ?_⟩)))⟩)
  have M := cn_mk hR hG hcx hdx hcy hdy
  have o := M.1.1 r hr
  dsimp only
  rw [ci, hdx r hr, hdy r hr]
  generalize (cn_rn B (cn_k B R G) (cn_D0 B g) 81).2 = D at o
  refine pk_eq (D r) 1000000 (fun e => ⟨?_, cn_rel hr hg hR hG⟩) (fun e => ⟨vi, ?_, cn_rel hr hg hR hG⟩)
  · rw [cn_ex_f (by omega)]
  · rw [cn_ex_t (by omega)]
theorem i_vc_distanceFrom {k : Nat} {u : SX} {v : SY} (I : i_Rel k u v) (hk : k + 4 ≤ 2048) (v1 : Int32) : wpX_distanceFrom (fun r u' => wpY_distanceFrom (fun r' v' => r' = r ∧ i_Rel (k + 4) u' v') v v1) u v1 := by
  obtain ⟨r, g, R, G, B, cx, dx, cy, dy, hr, hg, hR, hG, rfl, rfl⟩ := I
  unfold wpX_distanceFrom wpY_distanceFrom
  dsimp only
  rcases cn_cell v1 with hb | ⟨c, hc, rfl⟩
  · exact cn_outX hb (br_t rfl (cn_outY _ hb (br_t rfl ⟨rfl, cn_rel hr hg hR hG⟩)))
  · have vi : vp_in (nI c) 81 := vp_in_nI hc (by decide)
    have ci : (nI c).toNatClampNeg = c := nI_clamp (by omega)
    refine cn_inX hc (br_f (by decide) (cn_msX _ g R G B cx dx hg hR hG (fun cx' dx' hcx hdx => ⟨vi, cn_inY _ hc (br_f (by decide) (cn_msY _ g R G B cy dy hg hR hG (fun cy' dy' hcy hdy => ⟨vi, ?_⟩)))⟩)))
    have M := cn_mk hR hG hcx hdx hcy hdy
    have o := M.1.1 c hc
    dsimp only
    rw [ci, hdx c hc, hdy c hc]
    generalize (cn_rn B (cn_k B R G) (cn_D0 B g) 81).2 = D at o
    refine pk_eq (D c) 1000000 (fun e => ⟨?_, cn_rel hr hg hR hG⟩) (fun e => ⟨vi, ?_, cn_rel hr hg hR hG⟩)
    · rw [cn_ex_f (by omega)]
    · rw [cn_ex_t (by omega)]
theorem i_vc_next {k : Nat} {u : SX} {v : SY} (I : i_Rel k u v) (hk : k + 4 ≤ 2048) : wpX_next (fun r u' => wpY_next (fun r' v' => r' = r ∧ i_Rel (k + 4) u' v') v) u := by
  obtain ⟨r, g, R, G, B, cx, dx, cy, dy, hr, hg, hR, hG, rfl, rfl⟩ := I
  unfold wpX_next wpY_next
  dsimp only
  refine cn_msX _ g R G B cx dx hg hR hG (fun cx' dx' hcx hdx => ?_)
  have M0 := cn_mk0 hR hG hcx hdx
  refine cn_dfX _ _ _ M0 hr hg (cn_msY _ g R G B cy dy hg hR hG (fun cy' dy' hcy hdy => ?_))
  have M := cn_mk hR hG hcx hdx hcy hdy
  exact cn_dfY _ _ _ M hr hg ⟨rfl, cn_rel hr hg hR hG⟩
theorem i_vc_drive {k : Nat} {u : SX} {v : SY} (I : i_Rel k u v) (hk : k + 4 ≤ 2048) (v1 : Int32) : wpX_drive (fun r u' => wpY_drive (fun r' v' => r' = r ∧ i_Rel (k + 4) u' v') v v1) u v1 := by
  obtain ⟨r, g, R, G, B, cx, dx, cy, dy, hr, hg, hR, hG, rfl, rfl⟩ := I
  unfold wpX_drive wpY_drive
  dsimp only
  refine cn_msX _ g R G B cx dx hg hR hG (fun cx' dx' hcx hdx => ?_)
  have M0 := cn_mk0 hR hG hcx hdx
  dsimp only
  by_cases h0 : v1 ≤ 0
  · have h40 : ¬ (40 : Int32) ≤ v1 := fun z => absurd (Int32.le_trans z h0) (by decide)
    exact br_f h40 ⟨1, br_t h0 (cn_msY _ g R G B cy dy hg hR hG (fun cy' dy' hcy hdy => ⟨1, br_f (by decide) (br_t h0 ⟨rfl, cn_rel hr hg hR hG⟩)⟩))⟩
  · obtain ⟨m, hm, rfl⟩ := nI_of (x := v1) (fun z => h0 (Int32.le_of_lt z))
    by_cases h : 40 ≤ m
    · obtain ⟨a, c', hc', hX, hY⟩ := cn_drv (nI R) (nI G) M0 hg (nI m) 40 (by omega) (fun i hi => nI_ge (by omega) hm) (Or.inl (by decide)) 40 0 r rfl hr
      exact br_t (nI_le h hm) ⟨_, hX _ (cn_msY _ g R G B cy dy hg hR hG (fun cy' dy' hcy hdy => ⟨_, hY cy' dy' (cn_mk hR hG hcx hdx hcy hdy) _ ⟨rfl, cn_rel hc' hg hR hG⟩⟩))⟩
    · obtain ⟨a, c', hc', hX, hY⟩ := cn_drv (nI R) (nI G) M0 hg (nI m) m (by omega) (fun i hi => nI_ge (by omega) hm) (Or.inr (Int32.le_refl _)) m 0 r (by omega) hr
      exact br_f (nI_ge (b := 40) (by omega) (by decide)) ⟨_, hX _ (cn_msY _ g R G B cy dy hg hR hG (fun cy' dy' hcy hdy => ⟨_, hY cy' dy' (cn_mk hR hG hcx hdx hcy hdy) _ ⟨rfl, cn_rel hc' hg hR hG⟩⟩))⟩
theorem i_vc_where {k : Nat} {u : SX} {v : SY} (I : i_Rel k u v) (hk : k + 4 ≤ 2048) : wpX_where (fun r => wpY_where (fun r' => r' = r ∧ i_Rel (k + 4) u v) v) u := by
  obtain ⟨r, g, R, G, B, cx, dx, cy, dy, hr, hg, hR, hG, rfl, rfl⟩ := I
  exact ⟨rfl, cn_rel hr hg hR hG⟩
theorem i_vc_moves {k : Nat} {u : SX} {v : SY} (I : i_Rel k u v) (hk : k + 4 ≤ 2048) : wpX_moves (fun r u' => wpY_moves (fun r' v' => r' = r ∧ i_Rel (k + 4) u' v') v) u := by
  obtain ⟨r, g, R, G, B, cx, dx, cy, dy, hr, hg, hR, hG, rfl, rfl⟩ := I
  have vi : vp_in (nI r) 81 := vp_in_nI hr (by decide)
  have ci : (nI r).toNatClampNeg = r := nI_clamp (by omega)
  unfold wpX_moves wpY_moves
  dsimp only
  refine cn_msX _ g R G B cx dx hg hR hG (fun cx' dx' hcx hdx => ?_)
  have M0 := cn_mk0 hR hG hcx hdx
  have o := M0.1.1 r hr
  dsimp only
  refine ⟨vi, ?_⟩
  rw [ci, hdx r hr]
  by_cases e : (cn_rn B (cn_k B R G) (cn_D0 B g) 81).2 r < 1000000
  · rw [cn_ex_t e]
    obtain ⟨a, hX, hY⟩ := cn_mov (nI r) (nI R) (nI G) M0 hg 81 0 r rfl hr e
    refine br_f (cn_m4 (by omega)) ⟨_, hX _ (cn_msY _ g R G B cy dy hg hR hG (fun cy' dy' hcy hdy => ⟨vi, ?_⟩))⟩
    dsimp only
    rw [ci, hdy r hr]
    exact br_f (fun z => absurd ((nI_eq (b := 1000000) (by omega) (by decide)).mp z) (by omega)) ⟨_, hY cy' dy' (cn_mk hR hG hcx hdx hcy hdy) _ ⟨rfl, cn_rel hr hg hR hG⟩⟩
  · rw [cn_ex_f e]
    refine br_t rfl (cn_msY _ g R G B cy dy hg hR hG (fun cy' dy' hcy hdy => ⟨vi, ?_⟩))
    dsimp only
    rw [ci, hdy r hr, show (cn_rn B (cn_k B R G) (cn_D0 B g) 81).2 r = 1000000 from by omega]
    exact br_t rfl ⟨rfl, cn_rel hr hg hR hG⟩
theorem i_vc_reached {k : Nat} {u : SX} {v : SY} (I : i_Rel k u v) (hk : k + 4 ≤ 2048) : wpX_reached (fun r u' => wpY_reached (fun r' v' => r' = r ∧ i_Rel (k + 4) u' v') v) u := by
  obtain ⟨r, g, R, G, B, cx, dx, cy, dy, hr, hg, hR, hG, rfl, rfl⟩ := I
  unfold wpX_reached wpY_reached
  dsimp only
  refine cn_msX _ g R G B cx dx hg hR hG (fun cx' dx' hcx hdx => ?_)
  have M0 := cn_mk0 hR hG hcx hdx
  obtain ⟨a, hX, hY⟩ := cn_rea (nI r) (nI g) (nI R) (nI G) M0 81 0 0 rfl
  exact ⟨_, hX _ (cn_msY _ g R G B cy dy hg hR hG (fun cy' dy' hcy hdy => ⟨_, hY cy' dy' hdy _ ⟨rfl, cn_rel hr hg hR hG⟩⟩))⟩
theorem i_vc_farthest {k : Nat} {u : SX} {v : SY} (I : i_Rel k u v) (hk : k + 4 ≤ 2048) : wpX_farthest (fun r u' => wpY_farthest (fun r' v' => r' = r ∧ i_Rel (k + 4) u' v') v) u := by
  obtain ⟨r, g, R, G, B, cx, dx, cy, dy, hr, hg, hR, hG, rfl, rfl⟩ := I
  unfold wpX_farthest wpY_farthest
  dsimp only
  refine cn_msX _ g R G B cx dx hg hR hG (fun cx' dx' hcx hdx => ?_)
  have M0 := cn_mk0 hR hG hcx hdx
  obtain ⟨a, hX, hY⟩ := cn_fth (nI r) (nI g) (nI R) (nI G) M0 81 0 (-4) rfl (Int32.le_refl _)
  exact ⟨_, hX _ (cn_msY _ g R G B cy dy hg hR hG (fun cy' dy' hcy hdy => ⟨_, hY cy' dy' hdy _ ⟨rfl, cn_rel hr hg hR hG⟩⟩))⟩
end
