/-! the component's measuring against the pure rounds -/
def cn_ex (d : Nat) : Int32 := if d < 1000000 then nI d else -4
theorem cn_ex_t {d : Nat} (h : d < 1000000) : cn_ex d = nI d := if_pos h
theorem cn_ex_f {d : Nat} (h : ¬ d < 1000000) : cn_ex d = -4 := if_neg h
def cn_b : Bool → Int32
  | true => 1
  | false => 0
theorem cn_b_n (b : Bool) : narrow .boolean (.int (cn_b b)) = .int (cn_b b) := by cases b <;> rfl
def cn_pr (k D : Nat → Nat) (c d : Nat) : Int32 := if cn_nb c d < 81 ∧ D (cn_nb c d) < 1000000 then nI (k (cn_nb c d) + D (cn_nb c d)) else -4
theorem cn_prX {post : Int32 → Prop} (f1 f2 f3 f4 : Int32) (B cx dx : Nat → Int32) {k D : Nat → Nat} {c d : Nat} (hcx : ∀ j, j < 81 → B j = 0 → cx j = nI (k j)) (hdx : ∀ j, j < 81 → dx j = cn_ex (D j)) (hB : ∀ j, j < 81 → ¬ B j = 0 → D j = 1000000)
    (hc : c < 81) (hd : d < 4) (h : post (cn_pr k D c d)) : wpX_priceThrough post (f1, f2, f3, f4, B, cx, dx) (nI c) (nI d) := by
  unfold wpX_priceThrough
  dsimp only
  refine cn_nbX hc hd ?_
  unfold cn_pr at h
  generalize cn_nb c d = t at h ⊢
  by_cases e1 : t < 81
  · rw [cn_e_t e1]
    refine br_f (cn_m4 (by omega)) ⟨vp_in_nI e1 (by decide), ?_⟩
    rw [nI_clamp (by omega), hdx t e1]
    by_cases e2 : D t < 1000000
    · rw [if_pos ⟨e1, e2⟩] at h
      have z : B t = 0 := Classical.byContradiction (fun y => by have := hB t e1 y; omega)
      rw [cn_ex_t e2, hcx t e1 z, nI_add]
      exact br_f (cn_m4 (by omega)) ⟨vp_in_nI e1 (by decide), vp_in_nI e1 (by decide), h⟩
    · rw [if_neg (fun y => e2 y.2)] at h
      rw [cn_ex_f e2]
      exact br_t rfl h
  · rw [if_neg (fun y => e1 y.1)] at h
    rw [cn_e_f e1]
    exact br_t rfl h
theorem cn_imX {post : Int32 → SX → Prop} (f1 f2 f3 f4 : Int32) (B cx dx : Nat → Int32) {k D : Nat → Nat} {c b : Nat} (hk : ∀ j, 1 ≤ k j ∧ k j ≤ 37) (hcx : ∀ j, j < 81 → B j = 0 → cx j = nI (k j)) (hc : c < 81) (hBc : B c = 0)
    (I : cn_Iv B b D) (hb : b ≤ 26300) (hdx : ∀ j, j < 81 → dx j = cn_ex (D j))
    (h : ∀ dx', (∀ j, j < 81 → dx' j = cn_ex ((cn_rx k c (false, D) 4).2 j)) → post (cn_b (cn_rx k c (false, D) 4).1) (f1, f2, f3, f4, B, cx, dx')) : wpX_improve post (f1, f2, f3, f4, B, cx, dx) (nI c) := by
  refine loop_0 (fun n i s => wX_improve_4 post (nI c) f1 f2 f3 f4 n (cn_b s.1) (nI i) B cx s.2) (fun i s => s.1 = (cn_rx k c (false, D) i).1 ∧ ∀ j, j < 81 → s.2 j = cn_ex ((cn_rx k c (false, D) i).2 j)) 4 (false, dx) ⟨rfl, hdx⟩ (fun n s hs => ?_) (fun n i s hi hs kk => ?_)
  · refine br_t (nI_le (Nat.le_refl 4) (by decide)) ⟨cn_b_n _, ?_⟩
    rw [hs.1]
    exact h s.2 hs.2
  · have IT := cn_ind_rx k c (fun b D => cn_Iv B b D) (fun b D d _ hcd I => cn_Iv_s hk b D c d hBc hcd I) (fun b D I => cn_Iv_w b D I) (false, D) b I i (by omega)
    rw [cn_rx_s] at kk
    generalize cn_rx k c (false, D) i = T at hs IT kk
    obtain ⟨hs1, hs2⟩ := hs
    have ci : (nI c).toNatClampNeg = c := nI_clamp (by omega)
    have k1 := hk (cn_nb c i)
    refine br_f (nI_ge hi (by decide)) (cn_prX f1 f2 f3 f4 B cx s.2 hcx hs2 IT.2 hc hi ?_)
    have skip : ¬ cn_cd k T.2 c i → ∀ y, y = nI i + 1 → wX_improve_4 post (nI c) f1 f2 f3 f4 n (cn_b s.1) y B cx s.2 := fun z => nm_r (nI_1 i) (kk s (by rw [cn_st_f z]; exact ⟨hs1, hs2⟩))
    have st : cn_cd k T.2 c i → wX_improve_46 post (wX_improve_4 post (nI c) f1 f2 f3 f4 n) (nI c) (nI i) (nI (k (cn_nb c i) + T.2 (cn_nb c i))) f1 f2 f3 f4 B cx s.2 := by
      intro z
      have z3 := z.2.2
      have q : T.2 (cn_nb c i) + k (cn_nb c i) < 1000000 := by
        have a := IT.1 c hc
        have a2 := IT.1 (cn_nb c i) z.1
        have a3 := z.2.1
        omega
      refine ⟨vp_in_nI hc (by decide), nm_e (nm_r (nI_1 i) (kk (true, upd s.2 (nI c).toNatClampNeg (nI (k (cn_nb c i) + T.2 (cn_nb c i)))) ?_))⟩
      rw [cn_st_t z, ci]
      refine ⟨rfl, fun j hj => ?_⟩
      show upd s.2 c _ j = cn_ex (cn_up T.2 c _ j)
      by_cases e : j = c
      · rw [e, pk_us, cn_up_s, cn_ex_t q, Nat.add_comm]
      · rw [pk_un e, cn_up_n _ _ _ e]
        exact hs2 j hj
    unfold cn_pr
    by_cases e : cn_nb c i < 81 ∧ T.2 (cn_nb c i) < 1000000
    · rw [if_pos e]
      refine br_f (cn_m4 (by omega)) ⟨vp_in_nI hc (by decide), ?_⟩
      rw [ci, hs2 c hc]
      by_cases e2 : T.2 c < 1000000
      · rw [cn_ex_t e2]
        refine br_f (cn_m4 (by omega)) ⟨vp_in_nI hc (by decide), pk_le (T.2 c) (k (cn_nb c i) + T.2 (cn_nb c i)) (fun q => skip (fun z => ?_)) (fun q => st ⟨e.1, e.2, ?_⟩)⟩
        · have := z.2.2
          omega
        · omega
      · rw [cn_ex_f e2]
        refine br_t rfl (st ⟨e.1, e.2, ?_⟩)
        have a := IT.1 c hc
        have a2 := IT.1 (cn_nb c i) e.1
        omega
    · rw [if_neg e]
      exact br_t rfl (skip (fun z => e ⟨z.1, z.2.1⟩))
theorem cn_iaX {post : Int32 → SX → Prop} (f1 f2 f3 f4 : Int32) (B cx dx : Nat → Int32) {k D : Nat → Nat} {b : Nat} (hk : ∀ j, 1 ≤ k j ∧ k j ≤ 37) (hcx : ∀ j, j < 81 → B j = 0 → cx j = nI (k j))
    (I : cn_Iv B b D) (hb : b ≤ 25976) (hdx : ∀ j, j < 81 → dx j = cn_ex (D j))
    (h : ∀ dx', (∀ j, j < 81 → dx' j = cn_ex ((cn_sw B k D 81).2 j)) → post (cn_b (cn_sw B k D 81).1) (f1, f2, f3, f4, B, cx, dx')) : wpX_improveAll post (f1, f2, f3, f4, B, cx, dx) := by
  refine loop_0 (fun n i s => wX_improveAll_4 post n (cn_b s.1) (nI i) f1 f2 f3 f4 B cx s.2) (fun i s => s.1 = (cn_sw B k D i).1 ∧ ∀ j, j < 81 → s.2 j = cn_ex ((cn_sw B k D i).2 j)) 81 (false, dx) ⟨rfl, hdx⟩ (fun n s hs => ?_) (fun n i s hi hs kk => ?_)
  · refine br_t (nI_le (Nat.le_refl 81) (by decide)) ⟨cn_b_n _, ?_⟩
    rw [hs.1]
    exact h s.2 hs.2
  · have IT := cn_ind_sw B k (fun b D => cn_Iv B b D) (fun b D c d _ hB _ hcd I => cn_Iv_s hk b D c d hB hcd I) (fun b D I => cn_Iv_w b D I) D b I i (by omega)
    obtain ⟨hs1, hs2⟩ := hs
    refine br_f (nI_ge hi (by decide)) ⟨vp_in_nI hi (by decide), ?_⟩
    rw [nI_clamp (by omega)]
    by_cases e : B i = 0
    · rw [cn_sw_t k D e] at kk
      generalize cn_sw B k D i = T at hs1 hs2 IT kk
      refine br_t e (cn_imX f1 f2 f3 f4 B cx s.2 hk hcx hi e IT (by omega) hs2 (fun dx' hdx' => ?_))
      generalize cn_rx k i (false, T.2) 4 = U at hdx' kk
      dsimp only
      cases hu : U.1 with
      | false =>
        refine br_t rfl (nm_r (nI_1 i) (kk (s.1, dx') ⟨?_, hdx'⟩))
        show s.1 = (T.1 || U.1)
        rw [hu, Bool.or_false, hs1]
      | true =>
        refine br_f (by decide) (nm_r (nI_1 i) (kk (true, dx') ⟨?_, hdx'⟩))
        show true = (T.1 || U.1)
        rw [hu, Bool.or_true]
    · rw [cn_sw_f k D e] at kk
      exact br_f e (nm_r (nI_1 i) (kk s ⟨hs1, hs2⟩))
theorem cn_K_k {B : Nat → Int32} {R G j : Nat} (h : B j = 0) : cn_K B R G j = nI (cn_k B R G j) := if_pos h
theorem cn_m60 {post : SX → Prop} (f1 : Int32) (g R G : Nat) (B cx dx : Nat → Int32) (hR : R ≤ 3) (hG : G ≤ 9) (hcx : ∀ j, j < 81 → cx j = cn_K B R G j) (hdx : ∀ j, j < 81 → dx j = cn_ex (cn_D0 B g j))
    (h : ∀ dx', (∀ j, j < 81 → dx' j = cn_ex ((cn_rn B (cn_k B R G) (cn_D0 B g) 81).2 j)) → post (f1, nI g, nI R, nI G, B, cx, dx')) : ∃ n, wX_measure_60 post n 1 0 f1 (nI g) (nI R) (nI G) B cx dx := by
  have hk := cn_k_in B hR hG
  refine loop_0 (fun n i s => wX_measure_60 post n (cn_b s.1) (nI i) f1 (nI g) (nI R) (nI G) B cx s.2) (fun i s => s.1 = (cn_rn B (cn_k B R G) (cn_D0 B g) i).1 ∧ ∀ j, j < 81 → s.2 j = cn_ex ((cn_rn B (cn_k B R G) (cn_D0 B g) i).2 j)) 81 (true, dx) ⟨rfl, hdx⟩ (fun n s hs => ?_) (fun n i s hi hs kk => ?_)
  · exact br_t (nI_le (Nat.le_refl 81) (by decide)) (h s.2 hs.2)
  · have IT := cn_rn_Iv (B := B) hk g i
    have stay := cn_rn_stay (B := B) (k := cn_k B R G) (D := cn_D0 B g) (n := i)
    obtain ⟨hs1, hs2⟩ := hs
    refine br_f (nI_ge hi (by decide)) ?_
    cases e : (cn_rn B (cn_k B R G) (cn_D0 B g) i).1 with
    | false =>
      rw [hs1, e]
      have st := stay e (81 - i)
      rw [show i + (81 - i) = 81 from by omega] at st
      rw [st] at h
      exact br_t rfl (h s.2 hs2)
    | true =>
      rw [cn_rn_t e] at kk
      rw [hs1, e]
      exact br_f (by decide) (cn_iaX f1 (nI g) (nI R) (nI G) B cx s.2 hk (fun j hj hB => (hcx j hj).trans (cn_K_k hB)) IT (by omega) hs2 (fun dx' hdx' => nm_r (nI_1 i) (kk (_, dx') ⟨rfl, hdx'⟩)))
theorem cn_upd_lt {a f : Nat → Int32} {i : Nat} {v : Int32} (h : ∀ j, j < i → a j = f j) (hv : v = f i) : ∀ j, j < i + 1 → upd a i v j = f j := by
  intro j hj
  by_cases e : j = i
  · rw [e, pk_us, hv]
  · rw [pk_un e]; exact h j (by omega)
theorem cn_D0_all {B : Nat → Int32} {g : Nat} (h : ¬ B g = 0) (j : Nat) : cn_D0 B g j = 1000000 := by
  refine if_neg ?_
  intro y
  exact h (y.1 ▸ y.2)
theorem cn_D0_fx {B : Nat → Int32} {k : Nat → Nat} {g : Nat} (h : ¬ B g = 0) : cn_fx B k (cn_D0 B g) := by
  intro c _ _ d _ z
  have a := z.2.1
  rw [cn_D0_all h] at a
  omega
theorem cn_msX {post : SX → Prop} (f1 : Int32) (g R G : Nat) (B cx dx : Nat → Int32) (hg : g < 81) (hR : R ≤ 3) (hG : G ≤ 9)
    (h : ∀ cx' dx', (∀ j, j < 81 → cx' j = cn_K B R G j) → (∀ j, j < 81 → dx' j = cn_ex ((cn_rn B (cn_k B R G) (cn_D0 B g) 81).2 j)) → post (f1, nI g, nI R, nI G, B, cx', dx')) : wpX_measure post (f1, nI g, nI R, nI G, B, cx, dx) := by
  refine loop_0 (fun n i s => wX_measure_2 post f1 (nI g) (nI R) (nI G) n (nI i) B s.1 s.2) (fun i s => (∀ j, j < i → s.1 j = cn_K B R G j) ∧ ∀ j, j < i → s.2 j = -4) 81 (cx, dx) ⟨lt_0, lt_0⟩ (fun n s hs => ?_) (fun n i s hi hs kk => ?_)
  · refine br_t (nI_le (Nat.le_refl 81) (by decide)) ⟨vp_in_nI hg (by decide), ?_⟩
    rw [nI_clamp (by omega)]
    by_cases e : B g = 0
    · refine br_t e ⟨vp_in_nI hg (by decide), nm_e (cn_m60 f1 g R G B s.1 _ hR hG hs.1 (fun j hj => ?_) (fun dx' hdx' => h s.1 dx' hs.1 hdx'))⟩
      by_cases q : j = g
      · rw [q, pk_us, show cn_D0 B g g = 0 from if_pos ⟨rfl, e⟩]
        rfl
      · rw [pk_un q, show cn_D0 B g j = 1000000 from if_neg (fun y => q y.1), hs.2 j hj]
        rfl
    · refine br_f e (h s.1 s.2 hs.1 (fun j hj => ?_))
      rw [cn_rn_fx (cn_D0_fx e), cn_D0_all e j, hs.2 j hj]
      rfl
  · have ci : (nI i).toNatClampNeg = i := nI_clamp (by omega)
    exact br_f (nI_ge hi (by decide)) (cn_coX f1 (nI g) R G B s.1 s.2 hi hR ⟨vp_in_nI hi (by decide), nm_r (e' := upd s.1 i (cn_K B R G i)) (by rw [ci]) ⟨vp_in_nI hi (by decide), nm_r (e' := upd s.2 i (-4)) (by rw [ci]) (nm_r (nI_1 i) (kk (upd s.1 i (cn_K B R G i), upd s.2 i (-4)) ⟨cn_upd_lt hs.1 rfl, cn_upd_lt (f := fun _ => -4) hs.2 rfl⟩))⟩⟩)
