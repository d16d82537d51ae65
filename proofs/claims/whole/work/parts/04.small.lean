/-! numbers, cells, neighbours, spans, clearances, costs: each side's walk against the pure value -/
theorem cn_m4 {m : Nat} (h : m < 2 ^ 31) : ¬ nI m = -4 := by
  intro e
  have e2 := congrArg Int32.toInt e
  rw [nI_toInt h, show (-4 : Int32).toInt = -4 from by decide] at e2
  omega
def cn_e (x : Nat) : Int32 := if x < 81 then nI x else -4
theorem cn_e_t {x : Nat} (h : x < 81) : cn_e x = nI x := if_pos h
theorem cn_e_f {x : Nat} (h : ¬ x < 81) : cn_e x = -4 := if_neg h
theorem cn_inX {post : Int32 → Prop} {c : Nat} (hc : c < 81) (h : post 1) : wpX_inGrid post (nI c) :=
  br_f (nI_pos (by omega)) (br_f (nI_ge hc (by decide)) h)
theorem cn_inY {post : Int32 → Prop} (u : SY) {c : Nat} (hc : c < 81) (h : post 1) : wpY_isCell post u (nI c) := by
  obtain ⟨f1, f2, f3, f4, B, cy, dy⟩ := u
  exact br_f (nI_pos (by omega)) (br_f (nI_nlt (a := 80) (by omega) (by decide)) h)
theorem cn_outX {post : Int32 → Prop} {v : Int32} (hv : v < 0 ∨ nI 81 ≤ v) (h : post 0) : wpX_inGrid post v := by
  refine br_c (fun _ => h) (fun z => br_t ?_ h)
  cases hv with
  | inl a => exact absurd a z
  | inr a => exact a
theorem cn_outY {post : Int32 → Prop} (u : SY) {v : Int32} (hv : v < 0 ∨ nI 81 ≤ v) (h : post 0) : wpY_isCell post u v := by
  obtain ⟨f1, f2, f3, f4, B, cy, dy⟩ := u
  refine br_c (fun _ => h) (fun z => br_t ?_ h)
  cases hv with
  | inl a => exact absurd a z
  | inr a => exact Int32.lt_of_lt_of_le (show (80 : Int32) < nI 81 from by decide) a
theorem cn_cell (v : Int32) : (v < 0 ∨ nI 81 ≤ v) ∨ ∃ j : Nat, j < 81 ∧ v = nI j := by
  rcases pk_ix v (n := 81) (by decide) with a | a | a
  · exact Or.inl (Or.inl a)
  · exact Or.inl (Or.inr a)
  · exact Or.inr a
theorem cn_d4 {d : Nat} (h : d < 4) : d = 0 ∨ d = 1 ∨ d = 2 ∨ d = 3 := by omega
theorem cn_nb0 (c : Nat) : cn_nb c 0 = if c < 9 then 81 else c - 9 := rfl
theorem cn_nb1 (c : Nat) : cn_nb c 1 = if c % 9 = 8 then 81 else c + 1 := rfl
theorem cn_nb2 (c : Nat) : cn_nb c 2 = if 71 < c then 81 else c + 9 := rfl
theorem cn_nb3 (c : Nat) : cn_nb c 3 = if c % 9 = 0 then 81 else c - 1 := rfl
theorem cn_nbX {post : Int32 → Prop} {c d : Nat} (hc : c < 81) (hd : d < 4) (h : post (cn_e (cn_nb c d))) : wpX_neighbour post (nI c) (nI d) := by
  unfold wpX_neighbour
  refine ⟨by decide, nm_r (pk_rem (d := 9) (by omega) (by decide) (by decide)) ⟨by decide, nm_r (pk_div (d := 9) (by omega) (by decide) (by decide)) ?_⟩⟩
  rcases cn_d4 hd with rfl | rfl | rfl | rfl
  · refine br_t rfl (pk_le (c / 9) 0 (fun q => ?_) (fun q => ?_))
    · rw [cn_nb0, if_pos (by omega), cn_e_f (by decide)] at h; exact h
    · rw [cn_nb0, if_neg (by omega), cn_e_t (by omega)] at h
      rw [show nI c - 9 = nI (c - 9) from pk_sub (b := 9) (by omega)]; exact h
  · refine br_f (by decide) (br_t rfl (pk_le 8 (c % 9) (fun q => ?_) (fun q => ?_)))
    · rw [cn_nb1, if_pos (by omega), cn_e_f (by decide)] at h; exact h
    · rw [cn_nb1, if_neg (by omega), cn_e_t (by omega)] at h
      rw [nI_1]; exact h
  · refine br_f (by decide) (br_f (by decide) (br_t rfl (pk_le 8 (c / 9) (fun q => ?_) (fun q => ?_))))
    · rw [cn_nb2, if_pos (by omega), cn_e_f (by decide)] at h; exact h
    · rw [cn_nb2, if_neg (by omega), cn_e_t (by omega)] at h
      rw [show nI c + 9 = nI (c + 9) from nI_add c 9]; exact h
  · refine br_f (by decide) (br_f (by decide) (br_f (by decide) (pk_le (c % 9) 0 (fun q => ?_) (fun q => ?_))))
    · rw [cn_nb3, if_pos (by omega), cn_e_f (by decide)] at h; exact h
    · rw [cn_nb3, if_neg (by omega), cn_e_t (by omega)] at h
      rw [show nI c - 1 = nI (c - 1) from pk_sub (b := 1) (by omega)]; exact h
theorem cn_nbY {post : Int32 → Prop} (u : SY) {c d : Nat} (hc : c < 81) (hd : d < 4) (h : post (cn_e (cn_nb c d))) : wpY_neighbour post u (nI c) (nI d) := by
  obtain ⟨f1, f2, f3, f4, B, cy, dy⟩ := u
  have hr : nI c - nI c / 9 * 9 = nI (c % 9) := pk_rem (d := 9) (by omega) (by decide) (by decide)
  unfold wpY_neighbour
  dsimp only
  rw [hr]
  rcases cn_d4 hd with rfl | rfl | rfl | rfl
  · refine br_t rfl (pk_le 9 c (fun q => ?_) (fun q => ?_))
    · rw [cn_nb0, if_neg (by omega), cn_e_t (by omega)] at h
      rw [show nI c - 9 = nI (c - 9) from pk_sub (b := 9) (by omega)]; exact h
    · rw [cn_nb0, if_pos (by omega), cn_e_f (by decide)] at h; exact h
  · refine br_f (by decide) (br_t rfl ⟨by decide, pk_eq (c % 9) 8 (fun q => ?_) (fun q => ?_)⟩)
    · rw [cn_nb1, if_pos (by omega), cn_e_f (by decide)] at h; exact h
    · rw [cn_nb1, if_neg (by omega), cn_e_t (by omega)] at h
      rw [nI_1]; exact h
  · refine br_f (by decide) (br_f (by decide) (br_t rfl (pk_le c 71 (fun q => ?_) (fun q => ?_))))
    · rw [cn_nb2, if_neg (by omega), cn_e_t (by omega)] at h
      rw [show nI c + 9 = nI (c + 9) from nI_add c 9]; exact h
    · rw [cn_nb2, if_pos (by omega), cn_e_f (by decide)] at h; exact h
  · refine br_f (by decide) (br_f (by decide) (br_f (by decide) ⟨by decide, pk_eq (c % 9) 0 (fun q => ?_) (fun q => ?_)⟩))
    · rw [cn_nb3, if_pos (by omega), cn_e_f (by decide)] at h; exact h
    · rw [cn_nb3, if_neg (by omega), cn_e_t (by omega)] at h
      rw [show nI c - 1 = nI (c - 1) from pk_sub (b := 1) (by omega)]; exact h
/-! spans -/
def cn_ab (x y : Nat) : Nat := if x ≤ y then y - x else x - y
def cn_sp (a b : Nat) : Nat := if cn_ab (a % 9) (b % 9) ≤ cn_ab (a / 9) (b / 9) then cn_ab (a / 9) (b / 9) else cn_ab (a % 9) (b % 9)
theorem cn_ab_le {x y : Nat} (hx : x < 9) (hy : y < 9) : cn_ab x y < 9 := by unfold cn_ab; split <;> omega
theorem cn_sp_le {a b : Nat} (ha : a < 81) (hb : b < 81) : cn_sp a b < 9 := by
  unfold cn_sp
  split
  · exact cn_ab_le (by omega) (by omega)
  · exact cn_ab_le (by omega) (by omega)
theorem cn_absX {x y : Nat} (hx : x < 9) (hy : y < 9) {P : Int32 → Prop} (h : P (nI (cn_ab x y))) : (0 ≤ nI x - nI y → P (nI x - nI y)) ∧ (¬ 0 ≤ nI x - nI y → P (-(nI x - nI y))) := by
  by_cases e : y ≤ x
  · rw [show cn_ab x y = x - y from by unfold cn_ab; split <;> omega] at h
    rw [pk_sub e]
    exact br_t (nI_pos' (by omega)) h
  · rw [show cn_ab x y = y - x from by unfold cn_ab; split <;> omega] at h
    refine br_f (Int32.not_le.mpr (pk_sneg (by omega) (by omega))) ?_
    rw [Int32.neg_sub, pk_sub (by omega)]
    exact h
theorem cn_spX {post : Int32 → Prop} {a b : Nat} (ha : a < 81) (hb : b < 81) (h : post (nI (cn_sp a b))) : wpX_span post (nI a) (nI b) := by
  have r1 : nI a - nI a / 9 * 9 = nI (a % 9) := pk_rem (d := 9) (by omega) (by decide) (by decide)
  have r2 : nI b - nI b / 9 * 9 = nI (b % 9) := pk_rem (d := 9) (by omega) (by decide) (by decide)
  have d1 : nI a / 9 = nI (a / 9) := pk_div (d := 9) (by omega) (by decide) (by decide)
  have d2 : nI b / 9 = nI (b / 9) := pk_div (d := 9) (by omega) (by decide) (by decide)
  have s1 := cn_ab_le (x := a % 9) (y := b % 9) (by omega) (by omega)
  have s2 := cn_ab_le (x := a / 9) (y := b / 9) (by omega) (by omega)
  unfold wpX_span
  rw [r1, r2, d1, d2]
  refine ⟨by decide, by decide, nm_e ⟨by decide, by decide, nm_e ?_⟩⟩
  refine cn_absX (P := fun z => wX_span_30 post (nI (a / 9) - nI (b / 9)) z) (by omega) (by omega) ?_
  refine cn_absX (P := fun z => wX_span_42 post (nI (cn_ab (a % 9) (b % 9))) z) (by omega) (by omega) ?_
  refine pk_le (cn_ab (a % 9) (b % 9)) (cn_ab (a / 9) (b / 9)) (fun q => ?_) (fun q => ?_)
  · unfold cn_sp at h; rw [if_pos q] at h; exact h
  · unfold cn_sp at h; rw [if_neg (by omega)] at h; exact h
/-! clearances -/
def cn_cl (B : Nat → Int32) (c : Nat) : Nat → Nat
  | 0 => 9
  | i + 1 => if B i = 0 then cn_cl B c i else if cn_cl B c i ≤ cn_sp c i then cn_cl B c i else cn_sp c i
theorem cn_cl_0 {B : Nat → Int32} {c i : Nat} (h : B i = 0) : cn_cl B c (i + 1) = cn_cl B c i := if_pos h
theorem cn_cl_1 {B : Nat → Int32} {c i : Nat} (h : ¬ B i = 0) : cn_cl B c (i + 1) = if cn_cl B c i ≤ cn_sp c i then cn_cl B c i else cn_sp c i := if_neg h
theorem cn_cl_le (B : Nat → Int32) (c : Nat) : ∀ i, cn_cl B c i ≤ 9 := by
  intro i
  induction i with
  | zero => exact Nat.le_refl 9
  | succ i ih =>
    by_cases e : B i = 0
    · rw [cn_cl_0 e]; exact ih
    · rw [cn_cl_1 e]; split <;> omega
theorem cn_clX {post : Int32 → Prop} (f1 f2 f3 f4 : Int32) (B cx dx : Nat → Int32) {c : Nat} (hc : c < 81) (h : post (nI (cn_cl B c 81))) : wpX_clearanceOf post (f1, f2, f3, f4, B, cx, dx) (nI c) := by
  refine loop_0 (fun n i s => wX_clearanceOf_5 post (nI c) f1 f2 f3 f4 B cx dx n (nI s) (nI i)) (fun i s => s = cn_cl B c i) 81 9 rfl (fun n s hs => ?_) (fun n i s hi hs k => ?_)
  · subst hs
    exact br_t (nI_le (Nat.le_refl 81) (by decide)) h
  · have l := cn_cl_le B c i
    have l2 := cn_sp_le hc hi
    refine br_f (nI_ge hi (by decide)) ⟨vp_in_nI hi (by decide), ?_⟩
    rw [nI_clamp (by omega)]
    by_cases e : B i = 0
    · refine br_t e (nm_r (nI_1 i) (k s ?_))
      rw [cn_cl_0 e]; exact hs
    · refine br_f e (cn_spX hc hi (pk_le s (cn_sp c i) (fun q => nm_r (nI_1 i) (k s ?_)) (fun q => nm_r (nI_1 i) (k (cn_sp c i) ?_))))
      · rw [cn_cl_1 e, if_pos (by omega)]; exact hs
      · rw [cn_cl_1 e, if_neg (by omega)]
theorem cn_clY {post : Int32 → Prop} (f1 f2 f3 f4 : Int32) (B cy dy : Nat → Int32) {c : Nat} (hc : c < 81) (h : post (nI (cn_cl B c 81))) : wpY_clearance post (f1, f2, f3, f4, B, cy, dy) (nI c) := by
  unfold wpY_clearance
  dsimp only
  refine cn_inY _ hc (br_f (by decide) ?_)
  refine loop_0 (fun n i s => wY_clearance_15 post (nI c) f1 f2 f3 f4 B cy dy n (nI s) (nI i)) (fun i s => s = cn_cl B c i) 81 9 rfl (fun n s hs => ?_) (fun n i s hi hs k => ?_)
  · subst hs
    exact br_t (nI_le (Nat.le_refl 81) (by decide)) h
  · have l := cn_cl_le B c i
    have l2 := cn_sp_le hc hi
    refine br_f (nI_ge hi (by decide)) ⟨vp_in_nI hi (by decide), ?_⟩
    rw [nI_clamp (by omega)]
    by_cases e : B i = 0
    · refine br_t e (nm_r (nI_1 i) (k s ?_))
      rw [cn_cl_0 e]; exact hs
    · have r1 : nI c - nI c / 9 * 9 = nI (c % 9) := pk_rem (d := 9) (by omega) (by decide) (by decide)
      have r2 : nI i - nI i / 9 * 9 = nI (i % 9) := pk_rem (d := 9) (by omega) (by decide) (by decide)
      have d1 : nI c / 9 = nI (c / 9) := pk_div (d := 9) (by omega) (by decide) (by decide)
      have d2 : nI i / 9 = nI (i / 9) := pk_div (d := 9) (by omega) (by decide) (by decide)
      have s1 := cn_ab_le (x := c % 9) (y := i % 9) (by omega) (by omega)
      have s2 := cn_ab_le (x := c / 9) (y := i / 9) (by omega) (by omega)
      have fin : wY_clearance_96 post (wY_clearance_15 post (nI c) f1 f2 f3 f4 B cy dy n) (nI c) (nI s) (nI i) (nI (cn_ab (c % 9) (i % 9))) (nI (cn_ab (c / 9) (i / 9))) f1 f2 f3 f4 B cy dy := by
        have f2 : wY_clearance_112 post (wY_clearance_15 post (nI c) f1 f2 f3 f4 B cy dy n) (nI c) (nI s) (nI i) (nI (cn_sp c i)) f1 f2 f3 f4 B cy dy := by
          refine pk_le s (cn_sp c i) (fun q => nm_r (nI_1 i) (k s ?_)) (fun q => nm_r (nI_1 i) (k (cn_sp c i) ?_))
          · show s = _
            rw [cn_cl_1 e, if_pos (by omega)]; exact hs
          · show cn_sp c i = _
            rw [cn_cl_1 e, if_neg (by omega)]
        refine pk_le (cn_ab (c % 9) (i % 9)) (cn_ab (c / 9) (i / 9)) (fun q => ?_) (fun q => ?_)
        · rw [show cn_sp c i = cn_ab (c / 9) (i / 9) from if_pos q] at f2; exact f2
        · rw [show cn_sp c i = cn_ab (c % 9) (i % 9) from if_neg (by omega)] at f2; exact f2
      have mid : wY_clearance_62 post (wY_clearance_15 post (nI c) f1 f2 f3 f4 B cy dy n) (nI c) (nI s) (nI i) (nI (cn_ab (c % 9) (i % 9))) f1 f2 f3 f4 B cy dy := by
        unfold wY_clearance_62
        rw [d1, d2]
        refine ⟨by decide, by decide, pk_le (c / 9) (i / 9) (fun q => ⟨by decide, by decide, ?_⟩) (fun q => ⟨by decide, by decide, ?_⟩)⟩
        · rw [pk_sub q]
          rw [show cn_ab (c / 9) (i / 9) = i / 9 - c / 9 from if_pos q] at fin; exact fin
        · rw [pk_sub (Nat.le_of_lt q)]
          rw [show cn_ab (c / 9) (i / 9) = c / 9 - i / 9 from if_neg (by omega)] at fin; exact fin
      refine br_f e ⟨by decide, by decide, ?_⟩
      rw [r1, r2]
      refine pk_le (c % 9) (i % 9) (fun q => ⟨by decide, by decide, ?_⟩) (fun q => ⟨by decide, by decide, ?_⟩)
      · rw [pk_sub q]
        rw [show cn_ab (c % 9) (i % 9) = i % 9 - c % 9 from if_pos q] at mid; exact mid
      · rw [pk_sub (Nat.le_of_lt q)]
        rw [show cn_ab (c % 9) (i % 9) = c % 9 - i % 9 from if_neg (by omega)] at mid; exact mid
/-! costs -/
def cn_k (B : Nat → Int32) (R G c : Nat) : Nat := if cn_cl B c 81 ≤ R then 1 + G * (R + 1 - cn_cl B c 81) else 1
theorem cn_k_in (B : Nat → Int32) {R G : Nat} (hR : R ≤ 3) (hG : G ≤ 9) (c : Nat) : 1 ≤ cn_k B R G c ∧ cn_k B R G c ≤ 37 := by
  unfold cn_k
  split
  · have a : G * (R + 1 - cn_cl B c 81) ≤ 9 * 4 := Nat.mul_le_mul hG (by omega)
    omega
  · omega
def cn_K (B : Nat → Int32) (R G c : Nat) : Int32 := if B c = 0 then nI (cn_k B R G c) else -4
theorem cn_coX {post : Int32 → Prop} (f1 f2 : Int32) (R G : Nat) (B cx dx : Nat → Int32) {c : Nat} (hc : c < 81) (hR : R ≤ 3) (h : post (cn_K B R G c)) : wpX_costOf post (f1, f2, nI R, nI G, B, cx, dx) (nI c) := by
  refine ⟨vp_in_nI hc (by decide), ?_⟩
  rw [nI_clamp (by omega)]
  have l := cn_cl_le B c 81
  by_cases e : B c = 0
  · rw [show cn_K B R G c = nI (cn_k B R G c) from if_pos e] at h
    refine br_t e (cn_clX _ _ _ _ _ _ _ hc (pk_le (cn_cl B c 81) R (fun q => ?_) (fun q => ?_)))
    · rw [show cn_k B R G c = 1 + G * (R + 1 - cn_cl B c 81) from if_pos q] at h
      rw [nI_1, pk_sub (by omega), pk_mul, show ∀ x, (1 : Int32) + nI x = nI (1 + x) from fun x => nI_add 1 x]
      exact h
    · rw [show cn_k B R G c = 1 from if_neg (by omega)] at h
      exact h
  · rw [show cn_K B R G c = -4 from if_neg e] at h
    exact br_f e h
theorem cn_coY {post : Int32 → Prop} (f1 f2 : Int32) (R G : Nat) (B cy dy : Nat → Int32) {c : Nat} (hc : c < 81) (hR : R ≤ 3) (h : post (cn_K B R G c)) : wpY_cost post (f1, f2, nI R, nI G, B, cy, dy) (nI c) := by
  unfold wpY_cost
  dsimp only
  refine cn_inY _ hc (br_f (by decide) ⟨vp_in_nI hc (by decide), ?_⟩)
  rw [nI_clamp (by omega)]
  have l := cn_cl_le B c 81
  by_cases e : B c = 0
  · rw [show cn_K B R G c = nI (cn_k B R G c) from if_pos e] at h
    refine br_t e (cn_clY _ _ _ _ _ _ _ hc (pk_le (cn_cl B c 81) R (fun q => ?_) (fun q => ?_)))
    · rw [show cn_k B R G c = 1 + G * (R + 1 - cn_cl B c 81) from if_pos q] at h
      rw [nI_1, pk_sub (by omega), pk_mul, show ∀ x, (1 : Int32) + nI x = nI (1 + x) from fun x => nI_add 1 x]
      exact h
    · rw [show cn_k B R G c = 1 from if_neg (by omega)] at h
      exact h
  · rw [show cn_K B R G c = -4 from if_neg e] at h
    exact br_f e h
