section
/-! rows of kit/rows, pasted -/
theorem pk_us {f : Nat → Int32} {k : Nat} {x : Int32} : upd f k x k = x := if_pos rfl
theorem pk_un {f : Nat → Int32} {k j : Nat} {x : Int32} (h : j ≠ k) : upd f k x j = f j := if_neg h
theorem pk_sub {a b : Nat} (h : b ≤ a) : nI a - nI b = nI (a - b) := by
  obtain ⟨c, rfl⟩ : ∃ c, a = c + b := ⟨a - b, by omega⟩
  rw [← nI_add, Int32.add_sub_cancel, Nat.add_sub_cancel]
theorem pk_mul (a b : Nat) : nI a * nI b = nI (a * b) := (Int32.ofNat_mul a b).symm
theorem pk_div {a d : Nat} (ha : a < 2 ^ 31) (h0 : 0 < d) (hd : d < 2 ^ 31) : nI a / nI d = nI (a / d) := by
  apply Int32.toInt_inj.mp
  rw [lg_idiv_nonneg (by rw [nI_toInt ha]; omega) (by rw [nI_toInt hd]; omega), nI_toInt ha, nI_toInt hd, nI_toInt (Nat.lt_of_le_of_lt (Nat.div_le_self a d) ha)]
  first | rfl | exact (Int.natCast_ediv _ _).symm
theorem pk_rem {a d : Nat} (ha : a < 2 ^ 31) (h0 : 0 < d) (hd : d < 2 ^ 31) : nI a - nI a / nI d * nI d = nI (a % d) := by
  rw [pk_div ha h0 hd, pk_mul, pk_sub (Nat.div_mul_le_self a d)]
  exact congrArg nI (by have := Nat.div_add_mod' a d; omega)
theorem pk_sub_toInt {a b : Nat} (ha : a < 2 ^ 30) (hb : b < 2 ^ 30) : (nI a - nI b).toInt = (a : Int) - b := by
  rw [Int32.toInt_sub, nI_toInt (by omega), nI_toInt (by omega)]
  exact Int.bmod_eq_of_le (by omega) (by omega)
theorem pk_sneg {a b : Nat} (hb : b < 2 ^ 30) (h : a < b) : nI a - nI b < 0 := by
  rw [Int32.lt_iff_toInt_lt, pk_sub_toInt (by omega) hb, show (0 : Int32).toInt = 0 from by decide]
  omega
theorem pk_ix (x : Int32) {n : Nat} (hn : n < 2 ^ 31) : x < 0 ∨ nI n ≤ x ∨ ∃ j : Nat, j < n ∧ x = nI j := by
  by_cases h : x < 0
  · exact Or.inl h
  · obtain ⟨j, hj, rfl⟩ := nI_of h
    by_cases h2 : j < n
    · exact Or.inr (Or.inr ⟨j, h2, rfl⟩)
    · exact Or.inr (Or.inl (nI_le (by omega) hj))
theorem pk_le {x y : Int32} {A B : Prop} (a b : Nat) (f : a ≤ b → A) (g : b < a → B) (hx : x = nI a := by rfl) (hy : y = nI b := by rfl) (ha : a < 2 ^ 31 := by omega) (hb : b < 2 ^ 31 := by omega) : (x ≤ y → A) ∧ (¬ x ≤ y → B) := by
  subst hx hy
  rw [nI_leI ha hb]
  exact ⟨f, fun z => g (by omega)⟩
theorem pk_lt {x y : Int32} {A B : Prop} (a b : Nat) (f : a < b → A) (g : b ≤ a → B) (hx : x = nI a := by rfl) (hy : y = nI b := by rfl) (ha : a < 2 ^ 31 := by omega) (hb : b < 2 ^ 31 := by omega) : (x < y → A) ∧ (¬ x < y → B) := by
  subst hx hy
  rw [nI_ltI ha hb]
  exact ⟨f, fun z => g (by omega)⟩
theorem pk_eq {x y : Int32} {A B : Prop} (a b : Nat) (f : a = b → A) (g : a ≠ b → B) (hx : x = nI a := by rfl) (hy : y = nI b := by rfl) (ha : a < 2 ^ 31 := by omega) (hb : b < 2 ^ 31 := by omega) : (x = y → A) ∧ (¬ x = y → B) := by
  subst hx hy
  rw [nI_eq ha hb]
  exact ⟨f, g⟩
theorem pk_in {x : Int32} (n N : Nat) (h : n < N) (hx : x = nI n := by rfl) (hN : N < 2 ^ 31 := by omega) : vp_in x N := by
  subst hx
  exact vp_in_nI h hN
theorem pk_cl {x : Int32} (n : Nat) (hx : x = nI n := by rfl) (h : n < 2 ^ 31 := by omega) : x.toNatClampNeg = n := by
  subst hx
  exact nI_clamp h
theorem pk_loop {σ : Type} (W : Nat → Nat → σ → Prop) (I : Nat → σ → Prop) (e i0 : Nat) (s : σ) (hi : i0 ≤ e) (h0 : I i0 s) (hx : ∀ n s, I e s → W (n + 1) e s)
    (hs : ∀ n i s, i < e → I i s → (∀ s', I (i + 1) s' → W n (i + 1) s') → W (n + 1) i s) : ∃ n, W n i0 s :=
  ⟨e + 1, loop_i W I e hx hs (e + 1) i0 s hi (by omega) h0⟩
theorem pk_least (P : Nat → Prop) (h : ∃ k, P k) : ∃ k, P k ∧ ∀ j, j < k → ¬ P j := by
  obtain ⟨k, hk⟩ := h
  induction k using Nat.strongRecOn with
  | ind k ih =>
    by_cases e : ∃ j, j < k ∧ P j
    · obtain ⟨j, hj, pj⟩ := e
      exact ih j hj pj
    · exact ⟨k, hk, fun j hj pj => e ⟨j, hj, pj⟩⟩
theorem sb_negT {w : Nat} (h : w < 2 ^ 31) : (-nI w).toInt = -(w : Int) := by
  rw [Int32.toInt_neg, nI_toInt h]
  exact Int.bmod_eq_of_le (by omega) (by omega)
theorem sb_nle {a b : Nat} (ha : a < 2 ^ 31) (hb : b < 2 ^ 31) : -nI a ≤ -nI b ↔ b ≤ a := by
  rw [Int32.le_iff_toInt_le, sb_negT ha, sb_negT hb]
  omega
theorem sb_nlt {a b : Nat} (ha : a < 2 ^ 31) (hb : b < 2 ^ 31) : -nI a < -nI b ↔ b < a := by
  rw [Int32.lt_iff_toInt_lt, sb_negT ha, sb_negT hb]
  omega
end
section
/-! the pure picture: neighbours, one relaxation, a sweep, the rounds -/
def cn_nb (c d : Nat) : Nat := if d = 0 then (if c < 9 then 81 else c - 9) else if d = 1 then (if c % 9 = 8 then 81 else c + 1) else if d = 2 then (if 71 < c then 81 else c + 9) else (if c % 9 = 0 then 81 else c - 1)
abbrev cn_cd (k D : Nat → Nat) (c d : Nat) : Prop := cn_nb c d < 81 ∧ D (cn_nb c d) < 1000000 ∧ D (cn_nb c d) + k (cn_nb c d) < D c
def cn_up (D : Nat → Nat) (c w : Nat) : Nat → Nat := fun j => if j = c then w else D j
def cn_st (k : Nat → Nat) (c d : Nat) (s : Bool × (Nat → Nat)) : Bool × (Nat → Nat) := if cn_cd k s.2 c d then (true, cn_up s.2 c (s.2 (cn_nb c d) + k (cn_nb c d))) else s
def cn_rx (k : Nat → Nat) (c : Nat) (s : Bool × (Nat → Nat)) : Nat → Bool × (Nat → Nat)
  | 0 => s
  | i + 1 => cn_st k c i (cn_rx k c s i)
def cn_sw (B : Nat → Int32) (k D : Nat → Nat) : Nat → Bool × (Nat → Nat)
  | 0 => (false, D)
  | i + 1 => if B i = 0 then ((cn_sw B k D i).1 || (cn_rx k i (false, (cn_sw B k D i).2) 4).1, (cn_rx k i (false, (cn_sw B k D i).2) 4).2) else cn_sw B k D i
def cn_rn (B : Nat → Int32) (k D : Nat → Nat) : Nat → Bool × (Nat → Nat)
  | 0 => (true, D)
  | n + 1 => if (cn_rn B k D n).1 = true then cn_sw B k (cn_rn B k D n).2 81 else cn_rn B k D n
theorem cn_up_s (D : Nat → Nat) (c w : Nat) : cn_up D c w c = w := if_pos rfl
theorem cn_up_n (D : Nat → Nat) (c w : Nat) {j : Nat} (h : j ≠ c) : cn_up D c w j = D j := if_neg h
theorem cn_st_t {k : Nat → Nat} {c d : Nat} {s : Bool × (Nat → Nat)} (h : cn_cd k s.2 c d) : cn_st k c d s = (true, cn_up s.2 c (s.2 (cn_nb c d) + k (cn_nb c d))) := if_pos h
theorem cn_st_f {k : Nat → Nat} {c d : Nat} {s : Bool × (Nat → Nat)} (h : ¬ cn_cd k s.2 c d) : cn_st k c d s = s := if_neg h
theorem cn_rx_s (k : Nat → Nat) (c : Nat) (s : Bool × (Nat → Nat)) (i : Nat) : cn_rx k c s (i + 1) = cn_st k c i (cn_rx k c s i) := rfl
theorem cn_sw_t {B : Nat → Int32} (k D : Nat → Nat) {i : Nat} (h : B i = 0) : cn_sw B k D (i + 1) = ((cn_sw B k D i).1 || (cn_rx k i (false, (cn_sw B k D i).2) 4).1, (cn_rx k i (false, (cn_sw B k D i).2) 4).2) := if_pos h
theorem cn_sw_f {B : Nat → Int32} (k D : Nat → Nat) {i : Nat} (h : ¬ B i = 0) : cn_sw B k D (i + 1) = cn_sw B k D i := if_neg h
theorem cn_rn_t {B : Nat → Int32} {k D : Nat → Nat} {n : Nat} (h : (cn_rn B k D n).1 = true) : cn_rn B k D (n + 1) = cn_sw B k (cn_rn B k D n).2 81 := if_pos h
theorem cn_rn_f {B : Nat → Int32} {k D : Nat → Nat} {n : Nat} (h : ¬ (cn_rn B k D n).1 = true) : cn_rn B k D (n + 1) = cn_rn B k D n := if_neg h
/-! what each relaxation keeps, a sweep keeps, and the rounds keep -/
theorem cn_ind_rx (k : Nat → Nat) (c : Nat) (P : Nat → (Nat → Nat) → Prop)
    (hs : ∀ b D d, d < 4 → cn_cd k D c d → P b D → P (b + 1) (cn_up D c (D (cn_nb c d) + k (cn_nb c d)))) (hw : ∀ b D, P b D → P (b + 1) D)
    (s : Bool × (Nat → Nat)) (b : Nat) (h : P b s.2) : ∀ i, i ≤ 4 → P (b + i) (cn_rx k c s i).2 := by
  intro i
  induction i with
  | zero => intro _; exact h
  | succ i ih =>
    intro hi
    have h1 := ih (by omega)
    rw [cn_rx_s]
    by_cases e : cn_cd k (cn_rx k c s i).2 c i
    · rw [cn_st_t e]
      exact hs (b + i) _ i (by omega) e h1
    · rw [cn_st_f e]
      exact hw (b + i) _ h1
theorem cn_ind_sw (B : Nat → Int32) (k : Nat → Nat) (P : Nat → (Nat → Nat) → Prop)
    (hs : ∀ b D c d, c < 81 → B c = 0 → d < 4 → cn_cd k D c d → P b D → P (b + 1) (cn_up D c (D (cn_nb c d) + k (cn_nb c d)))) (hw : ∀ b D, P b D → P (b + 1) D)
    (D : Nat → Nat) (b : Nat) (h : P b D) : ∀ i, i ≤ 81 → P (b + 4 * i) (cn_sw B k D i).2 := by
  intro i
  induction i with
  | zero => intro _; exact h
  | succ i ih =>
    intro hi
    have h1 := ih (by omega)
    by_cases e : B i = 0
    · rw [cn_sw_t k D e]
      exact cn_ind_rx k i P (fun b D d => hs b D i d (by omega) e) hw (false, (cn_sw B k D i).2) (b + 4 * i) h1 4 (Nat.le_refl 4)
    · rw [cn_sw_f k D e]
      exact hw _ _ (hw _ _ (hw _ _ (hw _ _ h1)))
theorem cn_ind_rn (B : Nat → Int32) (k : Nat → Nat) (P : Nat → (Nat → Nat) → Prop)
    (hs : ∀ b D c d, c < 81 → B c = 0 → d < 4 → cn_cd k D c d → P b D → P (b + 1) (cn_up D c (D (cn_nb c d) + k (cn_nb c d)))) (hw : ∀ b D, P b D → P (b + 1) D)
    (D : Nat → Nat) (b : Nat) (h : P b D) : ∀ n, P (b + 324 * n) (cn_rn B k D n).2 := by
  have hm : ∀ m b D, P b D → P (b + m) D := by
    intro m
    induction m with
    | zero => intro b D h; exact h
    | succ m ih => intro b D h; exact hw _ _ (ih b D h)
  intro n
  induction n with
  | zero => exact h
  | succ n ih =>
    by_cases e : (cn_rn B k D n).1 = true
    · rw [cn_rn_t e]
      exact cn_ind_sw B k P hs hw (cn_rn B k D n).2 (b + 324 * n) ih 81 (Nat.le_refl 81)
    · rw [cn_rn_f e]
      exact hm 324 _ _ ih
/-! bounds: no sum leaves the ints, blocked cells are never reached -/
def cn_Iv (B : Nat → Int32) (b : Nat) (D : Nat → Nat) : Prop := (∀ j, j < 81 → D j ≤ 37 * b ∨ D j = 1000000) ∧ (∀ j, j < 81 → ¬ B j = 0 → D j = 1000000)
theorem cn_Iv_s {B : Nat → Int32} {k : Nat → Nat} (hk : ∀ j, 1 ≤ k j ∧ k j ≤ 37) (b : Nat) (D : Nat → Nat) (c d : Nat) (hc : B c = 0) (h : cn_cd k D c d) (I : cn_Iv B b D) : cn_Iv B (b + 1) (cn_up D c (D (cn_nb c d) + k (cn_nb c d))) := by
  obtain ⟨h1, h2, h3⟩ := h
  have a := I.1 _ h1
  have k1 := hk (cn_nb c d)
  refine ⟨fun j hj => ?_, fun j hj hB => ?_⟩
  · by_cases e : j = c
    · subst e; rw [cn_up_s]; omega
    · rw [cn_up_n D c _ e]
      have := I.1 j hj
      omega
  · by_cases e : j = c
    · subst e; exact absurd hc hB
    · rw [cn_up_n D c _ e]; exact I.2 j hj hB
theorem cn_Iv_w {B : Nat → Int32} (b : Nat) (D : Nat → Nat) (I : cn_Iv B b D) : cn_Iv B (b + 1) D := ⟨fun j hj => by have := I.1 j hj; omega, I.2⟩
/-! a fixed point -/
def cn_fx (B : Nat → Int32) (k D : Nat → Nat) : Prop := ∀ c, c < 81 → B c = 0 → ∀ d, d < 4 → ¬ cn_cd k D c d
theorem cn_rx_fx {k D : Nat → Nat} {c : Nat} (h : ∀ d, d < 4 → ¬ cn_cd k D c d) (f : Bool) : ∀ i, i ≤ 4 → cn_rx k c (f, D) i = (f, D) := by
  intro i
  induction i with
  | zero => intro _; rfl
  | succ i ih =>
    intro hi
    rw [cn_rx_s, ih (by omega)]
    exact cn_st_f (h i (by omega))
theorem cn_sw_fx {B : Nat → Int32} {k D : Nat → Nat} (h : cn_fx B k D) : ∀ i, i ≤ 81 → cn_sw B k D i = (false, D) := by
  intro i
  induction i with
  | zero => intro _; rfl
  | succ i ih =>
    intro hi
    by_cases e : B i = 0
    · rw [cn_sw_t k D e, ih (by omega), cn_rx_fx (h i (by omega) e) false 4 (Nat.le_refl 4)]
      rfl
    · rw [cn_sw_f k D e, ih (by omega)]
theorem cn_rx_fl {k D : Nat → Nat} {c : Nat} : ∀ i, (cn_rx k c (false, D) i).1 = false → (cn_rx k c (false, D) i).2 = D ∧ ∀ d, d < i → ¬ cn_cd k D c d := by
  intro i
  induction i with
  | zero => intro _; exact ⟨rfl, fun d hd => absurd hd (Nat.not_lt_zero d)⟩
  | succ i ih =>
    intro h
    rw [cn_rx_s] at h ⊢
    by_cases e : cn_cd k (cn_rx k c (false, D) i).2 c i
    · rw [cn_st_t e] at h
      exact Bool.noConfusion (show true = false from h)
    · rw [cn_st_f e] at h ⊢
      obtain ⟨a, b⟩ := ih h
      refine ⟨a, fun d hd => ?_⟩
      by_cases q : d = i
      · subst q; rw [a] at e; exact e
      · exact b d (by omega)
theorem cn_sw_fl {B : Nat → Int32} {k D : Nat → Nat} : ∀ i, (cn_sw B k D i).1 = false → (cn_sw B k D i).2 = D ∧ ∀ c, c < i → B c = 0 → ∀ d, d < 4 → ¬ cn_cd k D c d := by
  intro i
  induction i with
  | zero => intro _; exact ⟨rfl, fun d hd => absurd hd (Nat.not_lt_zero d)⟩
  | succ i ih =>
    intro h
    by_cases e : B i = 0
    · rw [cn_sw_t k D e] at h ⊢
      have h' : ((cn_sw B k D i).1 || (cn_rx k i (false, (cn_sw B k D i).2) 4).1) = false := h
      rw [Bool.or_eq_false_iff] at h'
      obtain ⟨a, b⟩ := ih h'.1
      have h2 := h'.2
      obtain ⟨a2, b2⟩ := cn_rx_fl 4 h2
      rw [a] at b2
      refine ⟨a2.trans a, fun c hc hB d hd => ?_⟩
      by_cases q : c = i
      · subst q; exact b2 d hd
      · exact b c (by omega) hB d hd
    · rw [cn_sw_f k D e] at h ⊢
      obtain ⟨a, b⟩ := ih h
      refine ⟨a, fun c hc hB d hd => ?_⟩
      by_cases q : c = i
      · subst q; exact absurd hB e
      · exact b c (by omega) hB d hd
theorem cn_rn_fl {B : Nat → Int32} {k D : Nat → Nat} : ∀ n, (cn_rn B k D n).1 = false → cn_fx B k (cn_rn B k D n).2 := by
  intro n
  induction n with
  | zero => intro h; exact Bool.noConfusion (show true = false from h)
  | succ n ih =>
    intro h
    by_cases e : (cn_rn B k D n).1 = true
    · rw [cn_rn_t e] at h ⊢
      obtain ⟨a, b⟩ := cn_sw_fl 81 h
      rw [a]
      exact b
    · rw [cn_rn_f e] at h ⊢
      exact ih h
theorem cn_rn_stay {B : Nat → Int32} {k D : Nat → Nat} {n : Nat} (h : (cn_rn B k D n).1 = false) : ∀ m, cn_rn B k D (n + m) = cn_rn B k D n := by
  intro m
  induction m with
  | zero => rfl
  | succ m ih =>
    rw [← Nat.add_assoc, cn_rn_f (by rw [ih, h]; decide), ih]
theorem cn_rn_fx {B : Nat → Int32} {k D : Nat → Nat} (h : cn_fx B k D) : ∀ n, (cn_rn B k D n).2 = D := by
  intro n
  induction n with
  | zero => rfl
  | succ n ih =>
    by_cases e : (cn_rn B k D n).1 = true
    · rw [cn_rn_t e, ih, cn_sw_fx h 81 (Nat.le_refl 81)]
    · rw [cn_rn_f e, ih]
/-! a sweep relaxes every edge at least as well as from its start -/
theorem cn_up_le {k D : Nat → Nat} {c d : Nat} (h : cn_cd k D c d) (j : Nat) : cn_up D c (D (cn_nb c d) + k (cn_nb c d)) j ≤ D j := by
  by_cases e : j = c
  · subst e; rw [cn_up_s]; exact Nat.le_of_lt h.2.2
  · rw [cn_up_n D c _ e]; exact Nat.le_refl _
theorem cn_rx_le (k : Nat → Nat) (c : Nat) (s : Bool × (Nat → Nat)) (i : Nat) (hi : i ≤ 4) (j : Nat) : (cn_rx k c s i).2 j ≤ s.2 j :=
  cn_ind_rx k c (fun _ D => ∀ j, D j ≤ s.2 j) (fun _ D d _ hcd h j => Nat.le_trans (cn_up_le hcd j) (h j)) (fun _ _ h => h) s 0 (fun _ => Nat.le_refl _) i hi j
theorem cn_sw_le (B : Nat → Int32) (k D : Nat → Nat) (i : Nat) (hi : i ≤ 81) (j : Nat) : (cn_sw B k D i).2 j ≤ D j :=
  cn_ind_sw B k (fun _ D' => ∀ j, D' j ≤ D j) (fun _ D' c d _ _ _ hcd h j => Nat.le_trans (cn_up_le hcd j) (h j)) (fun _ _ h => h) D 0 (fun _ => Nat.le_refl _) i hi j
theorem cn_rx_r (k : Nat → Nat) (c : Nat) (s : Bool × (Nat → Nat)) : ∀ i, i ≤ 4 → ∀ d, d < i → cn_nb c d < 81 → s.2 (cn_nb c d) < 1000000 → (cn_rx k c s i).2 c ≤ s.2 (cn_nb c d) + k (cn_nb c d) := by
  intro i
  induction i with
  | zero => intro _ d hd; exact absurd hd (Nat.not_lt_zero d)
  | succ i ih =>
    intro hi d hd h1 h2
    rw [cn_rx_s]
    have m := cn_rx_le k c s i (by omega)
    by_cases q : d = i
    · subst q
      have m1 := m (cn_nb c d)
      by_cases e : cn_cd k (cn_rx k c s d).2 c d
      · rw [cn_st_t e]
        show cn_up _ c _ c ≤ _
        rw [cn_up_s]
        omega
      · rw [cn_st_f e]
        have e' : ¬ (cn_rx k c s d).2 (cn_nb c d) + k (cn_nb c d) < (cn_rx k c s d).2 c := fun z => e ⟨h1, by omega, z⟩
        omega
    · have a := ih (by omega) d (by omega) h1 h2
      by_cases e : cn_cd k (cn_rx k c s i).2 c i
      · rw [cn_st_t e]
        exact Nat.le_trans (cn_up_le e c) a
      · rw [cn_st_f e]
        exact a
theorem cn_sw_r (B : Nat → Int32) (k D : Nat → Nat) : ∀ i, i ≤ 81 → ∀ c, c < i → B c = 0 → ∀ d, d < 4 → cn_nb c d < 81 → D (cn_nb c d) < 1000000 → (cn_sw B k D i).2 c ≤ D (cn_nb c d) + k (cn_nb c d) := by
  intro i
  induction i with
  | zero => intro _ c hc; exact absurd hc (Nat.not_lt_zero c)
  | succ i ih =>
    intro hi c hc hB d hd h1 h2
    by_cases e : B i = 0
    · rw [cn_sw_t k D e]
      show (cn_rx k i (false, (cn_sw B k D i).2) 4).2 c ≤ _
      by_cases q : c = i
      · subst q
        have m1 := cn_sw_le B k D c (by omega) (cn_nb c d)
        have a := cn_rx_r k c (false, (cn_sw B k D c).2) 4 (Nat.le_refl 4) d hd h1 (Nat.lt_of_le_of_lt m1 h2)
        exact Nat.le_trans a (Nat.add_le_add_right m1 _)
      · have a := ih (by omega) c (by omega) hB d hd h1 h2
        exact Nat.le_trans (cn_rx_le k i (false, (cn_sw B k D i).2) 4 (Nat.le_refl 4) c) a
    · rw [cn_sw_f k D e]
      by_cases q : c = i
      · subst q; exact absurd hB e
      · exact ih (by omega) c (by omega) hB d hd h1 h2
end
section
/-! the rounds end: each sweep that changes something settles one cell more -/
def cn_Q (B : Nat → Int32) (k : Nat → Nat) (v : Nat) (D : Nat → Nat) : Prop := ∀ c, c < 81 → B c = 0 → ∀ d, d < 4 → cn_cd k D c d → v ≤ D (cn_nb c d) + k (cn_nb c d)
theorem cn_Q_s {B : Nat → Int32} {k : Nat → Nat} (hk : ∀ j, 1 ≤ k j ∧ k j ≤ 37) {v : Nat} {D : Nat → Nat} {c d : Nat} (hc : c < 81) (hB : B c = 0) (hd : d < 4) (h : cn_cd k D c d) (Q : cn_Q B k v D) : cn_Q B k v (cn_up D c (D (cn_nb c d) + k (cn_nb c d))) := by
  have w := Q c hc hB d hd h
  intro c2 hc2 hB2 d2 hd2 h2
  obtain ⟨a1, a2, a3⟩ := h2
  by_cases e1 : cn_nb c2 d2 = c
  · rw [e1, cn_up_s]
    omega
  · rw [cn_up_n D c _ e1] at a2 a3 ⊢
    by_cases e2 : c2 = c
    · subst e2
      rw [cn_up_s] at a3
      exact Q c2 hc2 hB2 d2 hd2 ⟨a1, a2, Nat.lt_trans a3 h.2.2⟩
    · rw [cn_up_n D c _ e2] at a3
      exact Q c2 hc2 hB2 d2 hd2 ⟨a1, a2, a3⟩
def cn_S (B : Nat → Int32) (k : Nat → Nat) (v : Nat) (D D' : Nat → Nat) : Prop := cn_Q B k v D' ∧ ∀ j, (D j ≤ v → D' j = D j) ∧ (v < D j → v ≤ D' j)
theorem cn_sw_S {B : Nat → Int32} {k : Nat → Nat} (hk : ∀ j, 1 ≤ k j ∧ k j ≤ 37) {v : Nat} {D : Nat → Nat} (Q : cn_Q B k v D) : cn_S B k v D (cn_sw B k D 81).2 := by
  refine cn_ind_sw B k (fun _ D' => cn_S B k v D D') (fun _ D' c d hc hB hd hcd hS => ?_) (fun _ _ h => h) D 0 ⟨Q, fun j => ⟨fun _ => rfl, fun h => Nat.le_of_lt h⟩⟩ 81 (Nat.le_refl 81)
  have w := hS.1 c hc hB d hd hcd
  refine ⟨cn_Q_s hk hc hB hd hcd hS.1, fun j => ?_⟩
  have sj := hS.2 j
  by_cases e : j = c
  · subst e
    rw [cn_up_s]
    have z := hcd.2.2
    refine ⟨fun hj => ?_, fun _ => w⟩
    have := sj.1 hj
    omega
  · rw [cn_up_n D' c _ e]
    exact sj
theorem cn_sw_Q {B : Nat → Int32} {k : Nat → Nat} (hk : ∀ j, 1 ≤ k j ∧ k j ≤ 37) {v : Nat} {D : Nat → Nat} (Q : cn_Q B k v D) : cn_Q B k (v + 1) (cn_sw B k D 81).2 := by
  have S := cn_sw_S hk Q
  intro c hc hB d hd h
  have w := S.1 c hc hB d hd h
  have k1 := hk (cn_nb c d)
  obtain ⟨a1, a2, a3⟩ := h
  by_cases e : (cn_sw B k D 81).2 (cn_nb c d) + k (cn_nb c d) = v
  · exfalso
    have s1 := S.2 (cn_nb c d)
    have q : D (cn_nb c d) = (cn_sw B k D 81).2 (cn_nb c d) := by
      by_cases z : D (cn_nb c d) ≤ v
      · exact (s1.1 z).symm
      · have := s1.2 (by omega)
        omega
    have r := cn_sw_r B k D 81 (Nat.le_refl 81) c hc hB d hd a1 (by omega)
    omega
  · omega
/-! counting the settled cells -/
def cn_ct (D : Nat → Nat) (t : Nat) : Nat → Nat
  | 0 => 0
  | n + 1 => cn_ct D t n + (if D n < t then 1 else 0)
theorem cn_ct_s (D : Nat → Nat) (t n : Nat) : cn_ct D t (n + 1) = cn_ct D t n + (if D n < t then 1 else 0) := rfl
theorem cn_ct_le (D : Nat → Nat) (t : Nat) : ∀ n, cn_ct D t n ≤ n := by
  intro n
  induction n with
  | zero => exact Nat.le_refl 0
  | succ n ih => rw [cn_ct_s]; split <;> omega
theorem cn_ct_all (D : Nat → Nat) (t : Nat) : ∀ n, n ≤ cn_ct D t n → ∀ j, j < n → D j < t := by
  intro n
  induction n with
  | zero => intro _ j hj; exact absurd hj (Nat.not_lt_zero j)
  | succ n ih =>
    intro h j hj
    rw [cn_ct_s] at h
    have a := cn_ct_le D t n
    by_cases e : D n < t
    · rw [if_pos e] at h
      by_cases q : j = n
      · subst q; exact e
      · exact ih (by omega) j (by omega)
    · rw [if_neg e] at h
      omega
theorem cn_ct_mono (D D' : Nat → Nat) (t t' : Nat) : ∀ n, (∀ j, j < n → D j < t → D' j < t') → cn_ct D t n ≤ cn_ct D' t' n := by
  intro n
  induction n with
  | zero => intro _; exact Nat.le_refl 0
  | succ n ih =>
    intro h
    have a := ih (fun j hj => h j (by omega))
    rw [cn_ct_s, cn_ct_s]
    by_cases e : D n < t
    · rw [if_pos e, if_pos (h n (by omega) e)]; omega
    · rw [if_neg e]; omega
theorem cn_ct_lt (D D' : Nat → Nat) (t t' c : Nat) (h1 : ¬ D c < t) (h2 : D' c < t') : ∀ n, c < n → (∀ j, j < n → D j < t → D' j < t') → cn_ct D t n + 1 ≤ cn_ct D' t' n := by
  intro n
  induction n with
  | zero => intro hc; exact absurd hc (Nat.not_lt_zero c)
  | succ n ih =>
    intro hc h
    rw [cn_ct_s, cn_ct_s]
    by_cases q : c = n
    · subst q
      have a := cn_ct_mono D D' t t' c (fun j hj => h j (by omega))
      rw [if_neg h1, if_pos h2]; omega
    · have a := ih (by omega) (fun j hj => h j (by omega))
      by_cases e : D n < t
      · rw [if_pos e, if_pos (h n (by omega) e)]; omega
      · rw [if_neg e]; omega
theorem cn_grow {B : Nat → Int32} {k : Nat → Nat} (hk : ∀ j, 1 ≤ k j ∧ k j ≤ 37) {t n : Nat} {D : Nat → Nat} (Q : cn_Q B k t D) (hn : n ≤ cn_ct D t 81) (hf : ¬ cn_fx B k D) : ∃ t', cn_Q B k t' (cn_sw B k D 81).2 ∧ n + 1 ≤ cn_ct (cn_sw B k D 81).2 t' 81 := by
  have ex : ∃ v, ∃ c, c < 81 ∧ B c = 0 ∧ ∃ d, d < 4 ∧ cn_cd k D c d ∧ v = D (cn_nb c d) + k (cn_nb c d) := by
    refine Classical.byContradiction (fun z => hf (fun c hc hB d hd h => z ⟨_, c, hc, hB, d, hd, h, rfl⟩))
  obtain ⟨v, ⟨c, hc, hB, d, hd, hcd, hv⟩, hl⟩ := pk_least _ ex
  have Qv : cn_Q B k v D := by
    intro c2 hc2 hB2 d2 hd2 h2
    exact Nat.le_of_not_lt (fun z => hl _ z ⟨c2, hc2, hB2, d2, hd2, h2, rfl⟩)
  have tv : t ≤ v := by rw [hv]; exact Q c hc hB d hd hcd
  have S := cn_sw_S hk Qv
  have r := cn_sw_r B k D 81 (Nat.le_refl 81) c hc hB d hd hcd.1 hcd.2.1
  have z := hcd.2.2
  refine ⟨v + 1, cn_sw_Q hk Qv, Nat.le_trans (Nat.add_le_add_right hn 1) (cn_ct_lt D _ t (v + 1) c (by omega) (by omega) 81 hc (fun j _ hj => ?_))⟩
  have := (S.2 j).1 (by omega)
  omega
theorem cn_conv {B : Nat → Int32} {k : Nat → Nat} (hk : ∀ j, 1 ≤ k j ∧ k j ≤ 37) (D : Nat → Nat) : ∀ n, cn_fx B k (cn_rn B k D n).2 ∨ ∃ t, cn_Q B k t (cn_rn B k D n).2 ∧ n ≤ cn_ct (cn_rn B k D n).2 t 81 := by
  intro n
  induction n with
  | zero => exact Or.inr ⟨0, fun _ _ _ _ _ _ => Nat.zero_le _, Nat.zero_le _⟩
  | succ n ih =>
    by_cases f : cn_fx B k (cn_rn B k D n).2
    · left
      by_cases e : (cn_rn B k D n).1 = true
      · rw [cn_rn_t e, cn_sw_fx f 81 (Nat.le_refl 81)]
        exact f
      · rw [cn_rn_f e]
        exact f
    · right
      have e : (cn_rn B k D n).1 = true := by
        cases h : (cn_rn B k D n).1 with
        | true => rfl
        | false => exact absurd (cn_rn_fl n h) f
      rw [cn_rn_t e]
      cases ih with
      | inl z => exact absurd z f
      | inr z =>
        obtain ⟨t, Q, hn⟩ := z
        exact cn_grow hk Q hn f
theorem cn_final {B : Nat → Int32} {k : Nat → Nat} (hk : ∀ j, 1 ≤ k j ∧ k j ≤ 37) (D : Nat → Nat) : cn_fx B k (cn_rn B k D 81).2 := by
  cases cn_conv (B := B) hk D 81 with
  | inl h => exact h
  | inr h =>
    obtain ⟨t, Q, hn⟩ := h
    have a := cn_ct_all _ _ _ hn
    intro c hc hB d hd hcd
    have w := Q c hc hB d hd hcd
    have z := hcd.2.2
    have := a c hc
    omega
/-! every reached cell but the goal has a neighbour through which its price is had -/
def cn_Su (k : Nat → Nat) (g : Nat) (D : Nat → Nat) : Prop := ∀ c, c < 81 → c ≠ g → D c < 1000000 → ∃ d, d < 4 ∧ cn_nb c d < 81 ∧ D (cn_nb c d) < 1000000 ∧ D (cn_nb c d) + k (cn_nb c d) ≤ D c
theorem cn_Su_s {k : Nat → Nat} (hk : ∀ j, 1 ≤ k j ∧ k j ≤ 37) {g : Nat} {D : Nat → Nat} {c d : Nat} (hd : d < 4) (h : cn_cd k D c d) (hS : cn_Su k g D) (hI : D c ≤ 1000000) : cn_Su k g (cn_up D c (D (cn_nb c d) + k (cn_nb c d))) := by
  obtain ⟨h1, h2, h3⟩ := h
  have ne : cn_nb c d ≠ c := by intro e; rw [e] at h3; omega
  intro c2 hc2 hg hlt
  by_cases e : c2 = c
  · subst e
    refine ⟨d, hd, h1, ?_, ?_⟩
    · rw [cn_up_n D c2 _ ne]; exact h2
    · rw [cn_up_n D c2 _ ne, cn_up_s]; exact Nat.le_refl _
  · rw [cn_up_n D c _ e] at hlt ⊢
    obtain ⟨d2, hd2, a1, a2, a3⟩ := hS c2 hc2 hg hlt
    refine ⟨d2, hd2, a1, ?_, ?_⟩
    · exact Nat.lt_of_le_of_lt (cn_up_le ⟨h1, h2, h3⟩ _) a2
    · exact Nat.le_trans (Nat.add_le_add_right (cn_up_le ⟨h1, h2, h3⟩ _) _) a3
end
