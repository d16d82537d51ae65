/-! the rounds end: each sweep that changes something settles one cell more -/
def cn_Q (B : Nat → Int32) (k : Nat → Nat) (v : Nat) (D : Nat → Nat) : Prop := ∀ c, c < 81 → B c = 0 → ∀ d, d < 4 → cn_cd k D c d → v ≤ D (cn_nb c d) + k (cn_nb c d)
theorem cn_Q_s {B : Nat → Int32} {k : Nat → Nat} (hk : ∀ j, 1 ≤ k j ∧ k j ≤ 37) {v : Nat} {D : Nat → Nat} {c d : Nat} (hc : c < 81) (hB : B c = 0) (hd : d < 4) (h : cn_cd k D c d) (Q : cn_Q B k v D) : cn_Q B k v (cn_up D c (D (cn_nb c d) + k (cn_nb c d))) := by
  have w := Q c hc hB d hd h
  intro c2 hc2 hB2 d2 hd2 h2
  obtain ⟨a1, a2, a3⟩ := h2
  by_cases e1 : cn_nb c2 d2 = c
  · rw [e1, cn_up_s]
    omega
  · rw [cn_up_n D c _ e1] at a2 a3 ⊢
    by_cases e2 : c2 = c
    · subst e2
      rw [cn_up_s] at a3
      exact Q c2 hc2 hB2 d2 hd2 ⟨a1, a2, Nat.lt_trans a3 h.2.2⟩
    · rw [cn_up_n D c _ e2] at a3
      exact Q c2 hc2 hB2 d2 hd2 ⟨a1, a2, a3⟩
def cn_S (B : Nat → Int32) (k : Nat → Nat) (v : Nat) (D D' : Nat → Nat) : Prop := cn_Q B k v D' ∧ ∀ j, (D j ≤ v → D' j = D j) ∧ (v < D j → v ≤ D' j)
theorem cn_sw_S {B : Nat → Int32} {k : Nat → Nat} (hk : ∀ j, 1 ≤ k j ∧ k j ≤ 37) {v : Nat} {D : Nat → Nat} (Q : cn_Q B k v D) : cn_S B k v D (cn_sw B k D 81).2 := by
  refine cn_ind_sw B k (fun _ D' => cn_S B k v D D') (fun _ D' c d hc hB hd hcd hS => ?_) (fun _ _ h => h) D 0 ⟨Q, fun j => ⟨fun _ => rfl, fun h => Nat.le_of_lt h⟩⟩ 81 (Nat.le_refl 81)
  have w := hS.1 c hc hB d hd hcd
  refine ⟨cn_Q_s hk hc hB hd hcd hS.1, fun j => ?_⟩
  have sj := hS.2 j
  by_cases e : j = c
  · subst e
    rw [cn_up_s]
    have z := hcd.2.2
    refine ⟨fun hj => ?_, fun _ => w⟩
    have := sj.1 hj
    omega
  · rw [cn_up_n D' c _ e]
    exact sj
theorem cn_sw_Q {B : Nat → Int32} {k : Nat → Nat} (hk : ∀ j, 1 ≤ k j ∧ k j ≤ 37) {v : Nat} {D : Nat → Nat} (Q : cn_Q B k v D) : cn_Q B k (v + 1) (cn_sw B k D 81).2 := by
  have S := cn_sw_S hk Q
  intro c hc hB d hd h
  have w := S.1 c hc hB d hd h
  have k1 := hk (cn_nb c d)
  obtain ⟨a1, a2, a3⟩ := h
  by_cases e : (cn_sw B k D 81).2 (cn_nb c d) + k (cn_nb c d) = v
  · exfalso
    have s1 := S.2 (cn_nb c d)
    have q : D (cn_nb c d) = (cn_sw B k D 81).2 (cn_nb c d) := by
      by_cases z : D (cn_nb c d) ≤ v
      · exact (s1.1 z).symm
      · have := s1.2 (by omega)
        omega
    have r := cn_sw_r B k D 81 (Nat.le_refl 81) c hc hB d hd a1 (by omega)
    omega
  · omega
/-! counting the settled cells -/
def cn_ct (D : Nat → Nat) (t : Nat) : Nat → Nat
  | 0 => 0
  | n + 1 => cn_ct D t n + (if D n < t then 1 else 0)
theorem cn_ct_s (D : Nat → Nat) (t n : Nat) : cn_ct D t (n + 1) = cn_ct D t n + (if D n < t then 1 else 0) := rfl
theorem cn_ct_le (D : Nat → Nat) (t : Nat) : ∀ n, cn_ct D t n ≤ n := by
  intro n
  induction n with
  | zero => exact Nat.le_refl 0
  | succ n ih => rw [cn_ct_s]; split <;> omega
theorem cn_ct_all (D : Nat → Nat) (t : Nat) : ∀ n, n ≤ cn_ct D t n → ∀ j, j < n → D j < t := by
  intro n
  induction n with
  | zero => intro _ j hj; exact absurd hj (Nat.not_lt_zero j)
  | succ n ih =>
    intro h j hj
    rw [cn_ct_s] at h
    have a := cn_ct_le D t n
    by_cases e : D n < t
    · rw [if_pos e] at h
      by_cases q : j = n
      · subst q; exact e
      · exact ih (by omega) j (by omega)
    · rw [if_neg e] at h
      omega
theorem cn_ct_mono (D D' : Nat → Nat) (t t' : Nat) : ∀ n, (∀ j, j < n → D j < t → D' j < t') → cn_ct D t n ≤ cn_ct D' t' n := by
  intro n
  induction n with
  | zero => intro _; exact Nat.le_refl 0
  | succ n ih =>
    intro h
    have a := ih (fun j hj => h j (by omega))
    rw [cn_ct_s, cn_ct_s]
    by_cases e : D n < t
    · rw [if_pos e, if_pos (h n (by omega) e)]; omega
    · rw [if_neg e]; omega
theorem cn_ct_lt (D D' : Nat → Nat) (t t' c : Nat) (h1 : ¬ D c < t) (h2 : D' c < t') : ∀ n, c < n → (∀ j, j < n → D j < t → D' j < t') → cn_ct D t n + 1 ≤ cn_ct D' t' n := by
  intro n
  induction n with
  | zero => intro hc; exact absurd hc (Nat.not_lt_zero c)
  | succ n ih =>
    intro hc h
    rw [cn_ct_s, cn_ct_s]
    by_cases q : c = n
    · subst q
      have a := cn_ct_mono D D' t t' c (fun j hj => h j (by omega))
      rw [if_neg h1, if_pos h2]; omega
    · have a := ih (by omega) (fun j hj => h j (by omega))
      by_cases e : D n < t
      · rw [if_pos e, if_pos (h n (by omega) e)]; omega
      · rw [if_neg e]; omega
theorem cn_grow {B : Nat → Int32} {k : Nat → Nat} (hk : ∀ j, 1 ≤ k j ∧ k j ≤ 37) {t n : Nat} {D : Nat → Nat} (Q : cn_Q B k t D) (hn : n ≤ cn_ct D t 81) (hf : ¬ cn_fx B k D) : ∃ t', cn_Q B k t' (cn_sw B k D 81).2 ∧ n + 1 ≤ cn_ct (cn_sw B k D 81).2 t' 81 := by
  have ex : ∃ v, ∃ c, c < 81 ∧ B c = 0 ∧ ∃ d, d < 4 ∧ cn_cd k D c d ∧ v = D (cn_nb c d) + k (cn_nb c d) := by
    refine Classical.byContradiction (fun z => hf (fun c hc hB d hd h => z ⟨_, c, hc, hB, d, hd, h, rfl⟩))
  obtain ⟨v, ⟨c, hc, hB, d, hd, hcd, hv⟩, hl⟩ := pk_least _ ex
  have Qv : cn_Q B k v D := by
    intro c2 hc2 hB2 d2 hd2 h2
    exact Nat.le_of_not_lt (fun z => hl _ z ⟨c2, hc2, hB2, d2, hd2, h2, rfl⟩)
  have tv : t ≤ v := by rw [hv]; exact Q c hc hB d hd hcd
  have S := cn_sw_S hk Qv
  have r := cn_sw_r B k D 81 (Nat.le_refl 81) c hc hB d hd hcd.1 hcd.2.1
  have z := hcd.2.2
  refine ⟨v + 1, cn_sw_Q hk Qv, Nat.le_trans (Nat.add_le_add_right hn 1) (cn_ct_lt D _ t (v + 1) c (by omega) (by omega) 81 hc (fun j _ hj => ?_))⟩
  have := (S.2 j).1 (by omega)
  omega
theorem cn_conv {B : Nat → Int32} {k : Nat → Nat} (hk : ∀ j, 1 ≤ k j ∧ k j ≤ 37) (D : Nat → Nat) : ∀ n, cn_fx B k (cn_rn B k D n).2 ∨ ∃ t, cn_Q B k t (cn_rn B k D n).2 ∧ n ≤ cn_ct (cn_rn B k D n).2 t 81 := by
  intro n
  induction n with
  | zero => exact Or.inr ⟨0, fun _ _ _ _ _ _ => Nat.zero_le _, Nat.zero_le _⟩
  | succ n ih =>
    by_cases f : cn_fx B k (cn_rn B k D n).2
    · left
      by_cases e : (cn_rn B k D n).1 = true
      · rw [cn_rn_t e, cn_sw_fx f 81 (Nat.le_refl 81)]
        exact f
      · rw [cn_rn_f e]
        exact f
    · right
      have e : (cn_rn B k D n).1 = true := by
        cases h : (cn_rn B k D n).1 with
        | true => rfl
        | false => exact absurd (cn_rn_fl n h) f
      rw [cn_rn_t e]
      cases ih with
      | inl z => exact absurd z f
      | inr z =>
        obtain ⟨t, Q, hn⟩ := z
        exact cn_grow hk Q hn f
theorem cn_final {B : Nat → Int32} {k : Nat → Nat} (hk : ∀ j, 1 ≤ k j ∧ k j ≤ 37) (D : Nat → Nat) : cn_fx B k (cn_rn B k D 81).2 := by
  cases cn_conv (B := B) hk D 81 with
  | inl h => exact h
  | inr h =>
    obtain ⟨t, Q, hn⟩ := h
    have a := cn_ct_all _ _ _ hn
    intro c hc hB d hd hcd
    have w := Q c hc hB d hd hcd
    have z := hcd.2.2
    have := a c hc
    omega
/-! every reached cell but the goal has a neighbour through which its price is had -/
def cn_Su (k : Nat → Nat) (g : Nat) (D : Nat → Nat) : Prop := ∀ c, c < 81 → c ≠ g → D c < 1000000 → ∃ d, d < 4 ∧ cn_nb c d < 81 ∧ D (cn_nb c d) < 1000000 ∧ D (cn_nb c d) + k (cn_nb c d) ≤ D c
theorem cn_Su_s {k : Nat → Nat} (hk : ∀ j, 1 ≤ k j ∧ k j ≤ 37) {g : Nat} {D : Nat → Nat} {c d : Nat} (hd : d < 4) (h : cn_cd k D c d) (hS : cn_Su k g D) : cn_Su k g (cn_up D c (D (cn_nb c d) + k (cn_nb c d))) := by
  obtain ⟨h1, h2, h3⟩ := h
  have ne : cn_nb c d ≠ c := by intro e; rw [e] at h3; omega
  intro c2 hc2 hg hlt
  by_cases e : c2 = c
  · subst e
    refine ⟨d, hd, h1, ?_, ?_⟩
    · rw [cn_up_n D c2 _ ne]; exact h2
    · rw [cn_up_n D c2 _ ne, cn_up_s]; exact Nat.le_refl _
  · rw [cn_up_n D c _ e] at hlt ⊢
    obtain ⟨d2, hd2, a1, a2, a3⟩ := hS c2 hc2 hg hlt
    refine ⟨d2, hd2, a1, ?_, ?_⟩
    · exact Nat.lt_of_le_of_lt (cn_up_le ⟨h1, h2, h3⟩ _) a2
    · exact Nat.le_trans (Nat.add_le_add_right (cn_up_le ⟨h1, h2, h3⟩ _) _) a3
/-! the start, and what holds at the end -/
def cn_D0 (B : Nat → Int32) (g : Nat) : Nat → Nat := fun j => if j = g ∧ B j = 0 then 0 else 1000000
theorem cn_D0_Iv (B : Nat → Int32) (g : Nat) : cn_Iv B 0 (cn_D0 B g) := by
  refine ⟨fun j _ => ?_, fun j _ h => if_neg (fun z => h z.2)⟩
  by_cases e : j = g ∧ B j = 0
  · left; rw [show cn_D0 B g j = 0 from if_pos e]; exact Nat.zero_le _
  · right; exact if_neg e
theorem cn_D0_Su (B : Nat → Int32) (k : Nat → Nat) (g : Nat) : cn_Su k g (cn_D0 B g) := by
  intro c _ hg h
  rw [show cn_D0 B g c = 1000000 from if_neg (fun z => hg z.1)] at h
  exact absurd h (by decide)
theorem cn_rn_Iv {B : Nat → Int32} {k : Nat → Nat} (hk : ∀ j, 1 ≤ k j ∧ k j ≤ 37) (g n : Nat) : cn_Iv B (324 * n) (cn_rn B k (cn_D0 B g) n).2 := by
  have := cn_ind_rn B k (fun b D => cn_Iv B b D) (fun b D c d _ hB _ hcd I => cn_Iv_s hk b D c d hB hcd I) (fun b D I => cn_Iv_w b D I) (cn_D0 B g) 0 (cn_D0_Iv B g) n
  rw [Nat.zero_add] at this
  exact this
theorem cn_rn_Su {B : Nat → Int32} {k : Nat → Nat} (hk : ∀ j, 1 ≤ k j ∧ k j ≤ 37) (g n : Nat) : cn_Su k g (cn_rn B k (cn_D0 B g) n).2 :=
  cn_ind_rn B k (fun _ D => cn_Su k g D) (fun _ D c d _ _ hd hcd I => cn_Su_s hk hd hcd I) (fun _ _ I => I) (cn_D0 B g) 0 (cn_D0_Su B k g) n
/-- what the two sides' later walks need of the distances -/
def cn_Ok (B : Nat → Int32) (k : Nat → Nat) (g : Nat) (D : Nat → Nat) : Prop :=
  (∀ j, j < 81 → D j ≤ 1000000) ∧ (∀ j, j < 81 → ¬ B j = 0 → D j = 1000000) ∧
  (∀ c, c < 81 → c ≠ g → D c < 1000000 → ∃ d, d < 4 ∧ cn_nb c d < 81 ∧ D (cn_nb c d) < 1000000 ∧ D (cn_nb c d) + k (cn_nb c d) = D c)
theorem cn_ok {B : Nat → Int32} {k : Nat → Nat} (hk : ∀ j, 1 ≤ k j ∧ k j ≤ 37) (g : Nat) : cn_Ok B k g (cn_rn B k (cn_D0 B g) 81).2 := by
  have I := cn_rn_Iv (B := B) hk g 81
  have S := cn_rn_Su (B := B) hk g 81
  have F := cn_final (B := B) hk (cn_D0 B g)
  refine ⟨fun j hj => by have := I.1 j hj; omega, I.2, fun c hc hg h => ?_⟩
  obtain ⟨d, hd, a1, a2, a3⟩ := S c hc hg h
  have hB : B c = 0 := Classical.byContradiction (fun z => by have := I.2 c hc z; omega)
  have f : ¬ (cn_rn B k (cn_D0 B g) 81).2 (cn_nb c d) + k (cn_nb c d) < (cn_rn B k (cn_D0 B g) 81).2 c := fun z => F c hc hB d hd ⟨a1, a2, z⟩
  exact ⟨d, hd, a1, a2, by omega⟩
