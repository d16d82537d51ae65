/-! the direction from a cell: one answer for both sides -/
abbrev cn_gd (k D : Nat → Nat) (g c d : Nat) : Prop := (¬ c = g ∧ D c < 1000000) ∧ cn_nb c d < 81 ∧ D (cn_nb c d) < 1000000 ∧ D (cn_nb c d) + k (cn_nb c d) = D c
def cn_dr (k D : Nat → Nat) (g c : Nat) : Nat → Nat → Nat
  | 0, _ => 4
  | m + 1, i => if cn_gd k D g c i then i else cn_dr k D g c m (i + 1)
theorem cn_dr_t {k D : Nat → Nat} {g c m i : Nat} (h : cn_gd k D g c i) : cn_dr k D g c (m + 1) i = i := if_pos h
theorem cn_dr_f {k D : Nat → Nat} {g c m i : Nat} (h : ¬ cn_gd k D g c i) : cn_dr k D g c (m + 1) i = cn_dr k D g c m (i + 1) := if_neg h
theorem cn_dr_no {k D : Nat → Nat} {g c : Nat} (h : c = g ∨ ¬ D c < 1000000) : ∀ m i, cn_dr k D g c m i = 4 := by
  intro m
  induction m with
  | zero => intro i; rfl
  | succ m ih =>
    intro i
    rw [cn_dr_f (fun z => ?_)]
    · exact ih (i + 1)
    · cases h with
      | inl a => exact z.1.1 a
      | inr a => exact a z.1.2
theorem cn_dr_p {k D : Nat → Nat} {g c : Nat} : ∀ m i, i + m = 4 → (cn_dr k D g c m i = 4 ∧ ∀ d, i ≤ d → d < 4 → ¬ cn_gd k D g c d) ∨ (cn_dr k D g c m i < 4 ∧ cn_gd k D g c (cn_dr k D g c m i)) := by
  intro m
  induction m with
  | zero => intro i hi; exact Or.inl ⟨rfl, fun d h1 h2 => absurd h2 (by omega)⟩
  | succ m ih =>
    intro i hi
    by_cases e : cn_gd k D g c i
    · rw [cn_dr_t e]; exact Or.inr ⟨by omega, e⟩
    · rw [cn_dr_f e]
      cases ih (i + 1) (by omega) with
      | inl a =>
        refine Or.inl ⟨a.1, fun d h1 h2 => ?_⟩
        by_cases q : d = i
        · rw [q]; exact e
        · exact a.2 d (by omega) h2
      | inr a => exact Or.inr a
def cn_e4 (x : Nat) : Int32 := if x < 4 then nI x else -4
theorem cn_e4_t {x : Nat} (h : x < 4) : cn_e4 x = nI x := if_pos h
/-- the measured state of both sides -/
def cn_Ms (B : Nat → Int32) (k : Nat → Nat) (g : Nat) (D : Nat → Nat) (cx dx cy dy : Nat → Int32) : Prop :=
  cn_Ok B k g D ∧ (∀ j, 1 ≤ k j ∧ k j ≤ 37) ∧ (∀ j, j < 81 → B j = 0 → cx j = nI (k j)) ∧ (∀ j, j < 81 → dx j = cn_ex (D j)) ∧ (∀ j, j < 81 → B j = 0 → cy j = nI (k j)) ∧ (∀ j, j < 81 → dy j = nI (D j))
theorem cn_dfX {post : Int32 → Prop} (f1 f3 f4 : Int32) {g : Nat} {B cx dx cy dy : Nat → Int32} {k D : Nat → Nat} (M : cn_Ms B k g D cx dx cy dy) {c : Nat} (hc : c < 81) (hg : g < 81) (h : post (cn_e4 (cn_dr k D g c 4 0))) : wpX_directionFrom post (f1, nI g, f3, f4, B, cx, dx) (nI c) := by
  obtain ⟨⟨o1, o2, o3⟩, hk, hcx, hdx, hcy, hdy⟩ := M
  refine pk_eq c g (fun q => ?_) (fun q => ⟨vp_in_nI hc (by decide), ?_⟩)
  · rw [cn_dr_no (Or.inl q)] at h
    exact h
  · have ci : (nI c).toNatClampNeg = c := nI_clamp (by omega)
    rw [ci, hdx c hc]
    by_cases e : D c < 1000000
    · rw [cn_ex_t e]
      refine br_f (cn_m4 (by omega)) ⟨5, ?_⟩
      have key : ∀ m i, i + m = 4 → post (cn_e4 (cn_dr k D g c m i)) → wX_directionFrom_24 post (nI c) f1 (nI g) f3 f4 B cx dx (m + 1) (nI i) := by
        intro m
        induction m with
        | zero =>
          intro i hi hp
          exact br_t (nI_le (a := 4) (by omega) (by omega)) hp
        | succ m ih =>
          intro i hi hp
          refine br_f (nI_ge (b := 4) (by omega) (by decide)) (cn_prX f1 (nI g) f3 f4 B cx dx hcx hdx o2 hc (by omega) ⟨vp_in_nI hc (by decide), ?_⟩)
          rw [ci, hdx c hc, cn_ex_t e]
          unfold cn_pr
          by_cases z : cn_nb c i < 81 ∧ D (cn_nb c i) < 1000000
          · rw [if_pos z]
            have k1 := hk (cn_nb c i)
            refine pk_eq (k (cn_nb c i) + D (cn_nb c i)) (D c) (fun y => ?_) (fun y => nm_r (nI_1 i) (ih (i + 1) (by omega) ?_))
            · rw [cn_dr_t ⟨⟨q, e⟩, z.1, z.2, by omega⟩, cn_e4_t (by omega)] at hp
              exact hp
            · rw [cn_dr_f (fun w => y (by have := w.2.2.2; omega))] at hp
              exact hp
          · rw [if_neg z]
            refine br_f (fun y => cn_m4 (m := D c) (by omega) y.symm) (nm_r (nI_1 i) (ih (i + 1) (by omega) ?_))
            rw [cn_dr_f (fun w => z ⟨w.2.1, w.2.2.1⟩)] at hp
            exact hp
      exact key 4 0 rfl h
    · rw [cn_ex_f e]
      rw [cn_dr_no (Or.inr e)] at h
      exact br_t rfl h
theorem cn_dfY {post : Int32 → Prop} (f1 f3 f4 : Int32) {g : Nat} {B cx dx cy dy : Nat → Int32} {k D : Nat → Nat} (M : cn_Ms B k g D cx dx cy dy) {c : Nat} (hc : c < 81) (hg : g < 81) (h : post (cn_e4 (cn_dr k D g c 4 0))) : wpY_directionFrom post (f1, nI g, f3, f4, B, cy, dy) (nI c) := by
  obtain ⟨⟨o1, o2, o3⟩, hk, hcx, hdx, hcy, hdy⟩ := M
  have ci : (nI c).toNatClampNeg = c := nI_clamp (by omega)
  have vc : vp_in (nI c) 81 := vp_in_nI hc (by decide)
  have key : ∀ m i, i + m = 4 → post (cn_e4 (cn_dr k D g c m i)) → wY_directionFrom_2 post (nI c) f1 (nI g) f3 f4 B cy dy (m + 1) (nI i) := by
    intro m
    induction m with
    | zero =>
      intro i hi hp
      exact br_t (nI_le (a := 4) (by omega) (by omega)) hp
    | succ m ih =>
      intro i hi hp
      have skip : ¬ cn_gd k D g c i → ∀ y, y = nI i + 1 → wY_directionFrom_2 post (nI c) f1 (nI g) f3 f4 B cy dy (m + 1) y := by
        intro z
        refine nm_r (nI_1 i) (ih (i + 1) (by omega) ?_)
        rw [cn_dr_f z] at hp
        exact hp
      refine br_f (nI_ge (b := 4) (by omega) (by decide)) (cn_nbY _ hc (by omega) ?_)
      refine pk_eq c g (fun q => skip (fun z => z.1.1 q)) (fun q => ?_)
      by_cases e : cn_nb c i < 81
      · have ct : (nI (cn_nb c i)).toNatClampNeg = cn_nb c i := nI_clamp (by omega)
        have vt : vp_in (nI (cn_nb c i)) 81 := vp_in_nI e (by decide)
        have a := o1 c hc
        have a2 := o1 (cn_nb c i) e
        have k1 := hk (cn_nb c i)
        rw [cn_e_t e, ci, ct]
        refine br_f (cn_m4 (by omega)) ⟨vc, ?_⟩
        rw [hdy c hc]
        refine pk_le 1000000 (D c) (fun y => skip (fun z => by have := z.1.2; omega)) (fun y => ⟨vt, br_c (fun zB => ⟨vt, vt, vc, ?_⟩) (fun zB => skip (fun z => by have := o2 _ e zB; have := z.2.2.1; omega))⟩)
        rw [hdy _ e, hcy _ e zB, nI_add]
        refine pk_eq (D (cn_nb c i) + k (cn_nb c i)) (D c) (fun w => ?_) (fun w => skip (fun z => w z.2.2.2))
        rw [cn_dr_t ⟨⟨q, y⟩, e, by omega, w⟩, cn_e4_t (by omega)] at hp
        exact hp
      · rw [cn_e_f e]
        exact br_t rfl (skip (fun z => e z.2.1))
  exact ⟨5, key 4 0 rfl h⟩
/-! drive -/
theorem cn_drv {g : Nat} {B cx dx cy0 dy0 : Nat → Int32} {k D : Nat → Nat} (f3 f4 : Int32) (M0 : cn_Ms B k g D cx dx cy0 dy0) (hg : g < 81) (p0 : Int32) (L : Nat) (hL : L ≤ 40)
    (hp : ∀ i, i < L → ¬ p0 ≤ nI i) (hq : (40 : Int32) ≤ nI L ∨ p0 ≤ nI L) :
    ∀ m i c, i + m = L → c < 81 → ∃ r c', c' < 81 ∧ (∀ post : Int32 → SX → Prop, post (nI r) (nI c', nI g, f3, f4, B, cx, dx) → wX_drive_22 post (nI L) (nI g) f3 f4 B cx dx (m + 1) (nI i) (nI i) (nI c)) ∧
      (∀ cy dy, cn_Ms B k g D cx dx cy dy → ∀ post : Int32 → SY → Prop, post (nI r) (nI c', nI g, f3, f4, B, cy, dy) → wY_drive_8 post p0 (nI g) f3 f4 B cy dy (m + 1) (nI i) (nI i) (nI c)) := by
  have endY : ∀ (cy dy : Nat → Int32) (n j c : Nat) (post : Int32 → SY → Prop), post (nI j) (nI c, nI g, f3, f4, B, cy, dy) → wY_drive_8 post p0 (nI g) f3 f4 B cy dy (n + 1) (nI j) (nI L) (nI c) := by
    intro cy dy n j c post h
    exact br_c (fun _ => h) (fun z => br_t (hq.resolve_left z) h)
  have idle : ∀ (cy dy : Nat → Int32), cn_Ms B k g D cx dx cy dy → ∀ (j c : Nat), c < 81 → cn_dr k D g c 4 0 = 4 → ∀ m i, i + m = L → ∀ post : Int32 → SY → Prop, post (nI j) (nI c, nI g, f3, f4, B, cy, dy) → wY_drive_8 post p0 (nI g) f3 f4 B cy dy (m + 1) (nI j) (nI i) (nI c) := by
    intro cy dy M j c hc hd m
    induction m with
    | zero =>
      intro i hi post h
      rw [show i = L from by omega]
      exact endY cy dy 0 j c post h
    | succ m ih =>
      intro i hi post h
      refine br_f (nI_ge (b := 40) (by omega) (by decide)) (br_f (hp i (by omega)) (cn_dfY (nI c) f3 f4 M hc hg ?_))
      rw [hd]
      exact br_t rfl (nm_r (nI_1 i) (ih (i + 1) (by omega) post h))
  intro m
  induction m with
  | zero =>
    intro i c hi hc
    rw [show i = L from by omega]
    exact ⟨L, c, hc, fun post h => br_t (Int32.le_refl _) h, fun cy dy M post h => endY cy dy 0 L c post h⟩
  | succ m ih =>
    intro i c hi hc
    rcases cn_dr_p (k := k) (D := D) (g := g) (c := c) 4 0 rfl with hd | hd
    · refine ⟨i, c, hc, fun post h => ?_, fun cy dy M post h => idle cy dy M i c hc hd.1 (m + 1) i hi post h⟩
      refine br_f (nI_ge (by omega) (by omega)) (cn_dfX (nI c) f3 f4 M0 hc hg ?_)
      rw [hd.1]
      exact br_t rfl h
    · obtain ⟨hd4, z, e, _⟩ := hd
      obtain ⟨r, c', hc', hX, hY⟩ := ih (i + 1) (cn_nb c (cn_dr k D g c 4 0)) (by omega) e
      refine ⟨r, c', hc', fun post h => ?_, fun cy dy M post h => ?_⟩
      · refine br_f (nI_ge (by omega) (by omega)) (cn_dfX (nI c) f3 f4 M0 hc hg ?_)
        rw [cn_e4_t hd4]
        refine br_f (cn_m4 (by omega)) (cn_nbX hc hd4 ?_)
        rw [cn_e_t e]
        exact nm_r (nI_1 i) (nm_r (nI_1 i) (hX post h))
      · refine br_f (nI_ge (b := 40) (by omega) (by decide)) (br_f (hp i (by omega)) (cn_dfY (nI c) f3 f4 M hc hg ?_))
        rw [cn_e4_t hd4]
        refine br_f (cn_m4 (by omega)) (cn_nbY _ hc hd4 ?_)
        rw [cn_e_t e]
        exact nm_r (nI_1 i) (nm_r (nI_1 i) (hY cy dy M post h))
/-! moves -/
theorem cn_mov {g : Nat} {B cx dx cy0 dy0 : Nat → Int32} {k D : Nat → Nat} (f1 f3 f4 : Int32) (M0 : cn_Ms B k g D cx dx cy0 dy0) (hg : g < 81) :
    ∀ m i c, i + m = 81 → c < 81 → D c < 1000000 → ∃ r : Int32, (∀ post : Int32 → SX → Prop, post r (f1, nI g, f3, f4, B, cx, dx) → wX_moves_30 post f1 (nI g) f3 f4 B cx dx (m + 1) (nI c) (nI i) (nI i)) ∧
      (∀ cy dy, cn_Ms B k g D cx dx cy dy → ∀ post : Int32 → SY → Prop, post r (f1, nI g, f3, f4, B, cy, dy) → wY_moves_28 post f1 (nI g) f3 f4 B cy dy (m + 1) (nI c) (nI i)) := by
  intro m
  induction m with
  | zero =>
    intro i c hi hc hD
    have h81 : (81 : Int32) ≤ nI i := nI_le (a := 81) (by omega) (by omega)
    exact ⟨nI i, fun post h => br_t h81 h, fun cy dy M post h => br_t h81 h⟩
  | succ m ih =>
    intro i c hi hc hD
    have h81 : ¬ (81 : Int32) ≤ nI i := nI_ge (b := 81) (by omega) (by decide)
    by_cases q : c = g
    · refine ⟨nI i, fun post h => br_f h81 (cn_dfX f1 f3 f4 M0 hc hg ?_), fun cy dy M post h => br_f h81 (br_t (by rw [q]) h)⟩
      rw [cn_dr_no (Or.inl q)]
      exact br_t rfl h
    · rcases cn_dr_p (k := k) (D := D) (g := g) (c := c) 4 0 rfl with hd | hd
      · obtain ⟨d, hd4, a1, a2, a3⟩ := M0.1.2.2 c hc q hD
        exact absurd ⟨⟨q, hD⟩, a1, a2, a3⟩ (hd.2 d (Nat.zero_le d) hd4)
      · obtain ⟨hd4, z, e, e2, _⟩ := hd
        obtain ⟨r, hX, hY⟩ := ih (i + 1) (cn_nb c (cn_dr k D g c 4 0)) (by omega) e e2
        refine ⟨r, fun post h => ?_, fun cy dy M post h => ?_⟩
        · refine br_f h81 (cn_dfX f1 f3 f4 M0 hc hg ?_)
          rw [cn_e4_t hd4]
          refine br_f (cn_m4 (by omega)) (cn_nbX hc hd4 ?_)
          rw [cn_e_t e]
          exact nm_r (nI_1 i) (nm_r (nI_1 i) (hX post h))
        · refine br_f h81 (br_f (fun w => q ((nI_eq (by omega) (by omega)).mp w)) (cn_dfY f1 f3 f4 M hc hg ?_))
          rw [cn_e4_t hd4]
          refine cn_nbY _ hc hd4 ?_
          rw [cn_e_t e]
          exact nm_r (nI_1 i) (hY cy dy M post h)
/-! reached, farthest -/
theorem cn_rea {g : Nat} {B cx dx cy0 dy0 : Nat → Int32} {k D : Nat → Nat} (f1 f2 f3 f4 : Int32) (M0 : cn_Ms B k g D cx dx cy0 dy0) :
    ∀ m i (a : Int32), i + m = 81 → ∃ r : Int32, (∀ post : Int32 → SX → Prop, post r (f1, f2, f3, f4, B, cx, dx) → wX_reached_8 post f1 f2 f3 f4 B cx dx (m + 1) a (nI i)) ∧
      (∀ cy dy, (∀ j, j < 81 → dy j = nI (D j)) → ∀ post : Int32 → SY → Prop, post r (f1, f2, f3, f4, B, cy, dy) → wY_reached_8 post f1 f2 f3 f4 B cy dy (m + 1) a (nI i)) := by
  obtain ⟨⟨o1, o2, o3⟩, hk, hcx, hdx, _, _⟩ := M0
  intro m
  induction m with
  | zero =>
    intro i a hi
    have h81 : (81 : Int32) ≤ nI i := nI_le (a := 81) (by omega) (by omega)
    exact ⟨a, fun post h => br_t h81 h, fun cy dy hdy post h => br_t h81 h⟩
  | succ m ih =>
    intro i a hi
    have h81 : ¬ (81 : Int32) ≤ nI i := nI_ge (b := 81) (by omega) (by decide)
    have ci : (nI i).toNatClampNeg = i := nI_clamp (by omega)
    have vi : vp_in (nI i) 81 := vp_in_nI (by omega) (by decide)
    have o := o1 i (by omega)
    by_cases e : D i < 1000000
    · obtain ⟨r, hX, hY⟩ := ih (i + 1) (a + 1) (by omega)
      refine ⟨r, fun post h => br_f h81 ⟨vi, ?_⟩, fun cy dy hdy post h => br_f h81 ⟨vi, ?_⟩⟩
      · rw [ci, hdx i (by omega), cn_ex_t e]
        exact br_f (cn_m4 (by omega)) (nm_e (nm_r (nI_1 i) (hX post h)))
      · rw [ci, hdy i (by omega)]
        exact br_f (nI_ge (b := 1000000) e (by decide)) (nm_e (nm_r (nI_1 i) (hY cy dy hdy post h)))
    · obtain ⟨r, hX, hY⟩ := ih (i + 1) a (by omega)
      refine ⟨r, fun post h => br_f h81 ⟨vi, ?_⟩, fun cy dy hdy post h => br_f h81 ⟨vi, ?_⟩⟩
      · rw [ci, hdx i (by omega), cn_ex_f e]
        exact br_t rfl (nm_r (nI_1 i) (hX post h))
      · rw [ci, hdy i (by omega)]
        exact br_t (nI_le (a := 1000000) (by omega) (by omega)) (nm_r (nI_1 i) (hY cy dy hdy post h))
theorem cn_m4_le (n : Nat) (h : n < 2 ^ 31) : (-4 : Int32) ≤ nI n := by
  rw [Int32.le_iff_toInt_le, nI_toInt h, show (-4 : Int32).toInt = -4 from by decide]
  omega
theorem cn_fth {g : Nat} {B cx dx cy0 dy0 : Nat → Int32} {k D : Nat → Nat} (f1 f2 f3 f4 : Int32) (M0 : cn_Ms B k g D cx dx cy0 dy0) :
    ∀ m i (a : Int32), i + m = 81 → (-4 : Int32) ≤ a → ∃ r : Int32, (∀ post : Int32 → SX → Prop, post r (f1, f2, f3, f4, B, cx, dx) → wX_farthest_9 post f1 f2 f3 f4 B cx dx (m + 1) a (nI i)) ∧
      (∀ cy dy, (∀ j, j < 81 → dy j = nI (D j)) → ∀ post : Int32 → SY → Prop, post r (f1, f2, f3, f4, B, cy, dy) → wY_farthest_9 post f1 f2 f3 f4 B cy dy (m + 1) a (nI i)) := by
  obtain ⟨⟨o1, o2, o3⟩, hk, hcx, hdx, _, _⟩ := M0
  intro m
  induction m with
  | zero =>
    intro i a hi ha
    have h81 : (81 : Int32) ≤ nI i := nI_le (a := 81) (by omega) (by omega)
    exact ⟨a, fun post h => br_t h81 h, fun cy dy hdy post h => br_t h81 h⟩
  | succ m ih =>
    intro i a hi ha
    have h81 : ¬ (81 : Int32) ≤ nI i := nI_ge (b := 81) (by omega) (by decide)
    have ci : (nI i).toNatClampNeg = i := nI_clamp (by omega)
    have vi : vp_in (nI i) 81 := vp_in_nI (by omega) (by decide)
    have o := o1 i (by omega)
    by_cases e : D i < 1000000
    · by_cases z : nI (D i) ≤ a
      · obtain ⟨r, hX, hY⟩ := ih (i + 1) a (by omega) ha
        refine ⟨r, fun post h => br_f h81 ⟨vi, ?_⟩, fun cy dy hdy post h => br_f h81 ⟨vi, ?_⟩⟩
        · rw [ci, hdx i (by omega), cn_ex_t e]
          exact br_t z (nm_r (nI_1 i) (hX post h))
        · rw [ci, hdy i (by omega)]
          exact br_f (nI_ge (b := 1000000) e (by decide)) ⟨vi, br_t z (nm_r (nI_1 i) (hY cy dy hdy post h))⟩
      · obtain ⟨r, hX, hY⟩ := ih (i + 1) (nI (D i)) (by omega) (cn_m4_le _ (by omega))
        refine ⟨r, fun post h => br_f h81 ⟨vi, ?_⟩, fun cy dy hdy post h => br_f h81 ⟨vi, ?_⟩⟩
        · rw [ci, hdx i (by omega), cn_ex_t e]
          exact br_f z ⟨vi, nm_e (nm_r (nI_1 i) (hX post h))⟩
        · rw [ci, hdy i (by omega)]
          exact br_f (nI_ge (b := 1000000) e (by decide)) ⟨vi, br_f z ⟨vi, nm_e (nm_r (nI_1 i) (hY cy dy hdy post h))⟩⟩
    · obtain ⟨r, hX, hY⟩ := ih (i + 1) a (by omega) ha
      refine ⟨r, fun post h => br_f h81 ⟨vi, ?_⟩, fun cy dy hdy post h => br_f h81 ⟨vi, ?_⟩⟩
      · rw [ci, hdx i (by omega), cn_ex_f e]
        exact br_t ha (nm_r (nI_1 i) (hX post h))
      · rw [ci, hdy i (by omega)]
        exact br_t (nI_le (a := 1000000) (by omega) (by omega)) (nm_r (nI_1 i) (hY cy dy hdy post h))
