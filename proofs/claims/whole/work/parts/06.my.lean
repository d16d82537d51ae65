/-! the reference's measuring against the pure rounds -/
theorem cn_imY {post : Int32 → SY → Prop} (f1 f2 f3 f4 : Int32) (B cy dy : Nat → Int32) {k D : Nat → Nat} {c b : Nat} (hk : ∀ j, 1 ≤ k j ∧ k j ≤ 37) (hcy : ∀ j, j < 81 → B j = 0 → cy j = nI (k j)) (hc : c < 81) (hBc : B c = 0)
    (I : cn_Iv B b D) (hb : b ≤ 26300) (hdy : ∀ j, j < 81 → dy j = nI (D j))
    (h : ∀ dy', (∀ j, j < 81 → dy' j = nI ((cn_rx k c (false, D) 4).2 j)) → post (cn_b (cn_rx k c (false, D) 4).1) (f1, f2, f3, f4, B, cy, dy')) : wpY_relax post (f1, f2, f3, f4, B, cy, dy) (nI c) := by
  refine loop_0 (fun n i s => wY_relax_4 post (nI c) f1 f2 f3 f4 n (cn_b s.1) (nI i) B cy s.2) (fun i s => s.1 = (cn_rx k c (false, D) i).1 ∧ ∀ j, j < 81 → s.2 j = nI ((cn_rx k c (false, D) i).2 j)) 4 (false, dy) ⟨rfl, hdy⟩ (fun n s hs => ?_) (fun n i s hi hs kk => ?_)
  · refine br_t (nI_le (Nat.le_refl 4) (by decide)) ⟨cn_b_n _, ?_⟩
    rw [hs.1]
    exact h s.2 hs.2
  · have IT := cn_ind_rx k c (fun b D => cn_Iv B b D) (fun b D d _ hcd I => cn_Iv_s hk b D c d hBc hcd I) (fun b D I => cn_Iv_w b D I) (false, D) b I i (by omega)
    rw [cn_rx_s] at kk
    generalize cn_rx k c (false, D) i = T at hs IT kk
    obtain ⟨hs1, hs2⟩ := hs
    have ci : (nI c).toNatClampNeg = c := nI_clamp (by omega)
    have k1 := hk (cn_nb c i)
    have skip : ¬ cn_cd k T.2 c i → ∀ y, y = nI i + 1 → wY_relax_4 post (nI c) f1 f2 f3 f4 n (cn_b s.1) y B cy s.2 := fun z => nm_r (nI_1 i) (kk s (by rw [cn_st_f z]; exact ⟨hs1, hs2⟩))
    have st : cn_cd k T.2 c i → ∀ a, a = upd s.2 c (nI (T.2 (cn_nb c i) + k (cn_nb c i))) → ∀ y, y = nI i + 1 → wY_relax_4 post (nI c) f1 f2 f3 f4 n 1 y B cy a := by
      intro z
      refine nm_e (nm_r (nI_1 i) (kk (true, upd s.2 c (nI (T.2 (cn_nb c i) + k (cn_nb c i)))) ?_))
      rw [cn_st_t z]
      refine ⟨rfl, fun j hj => ?_⟩
      show upd s.2 c _ j = nI (cn_up T.2 c _ j)
      by_cases e : j = c
      · rw [e, pk_us, cn_up_s]
      · rw [pk_un e, cn_up_n _ _ _ e]
        exact hs2 j hj
    refine br_f (nI_ge hi (by decide)) (cn_nbY _ hc hi ?_)
    by_cases e : cn_nb c i < 81
    · have ct : (nI (cn_nb c i)).toNatClampNeg = cn_nb c i := nI_clamp (by omega)
      have vt : vp_in (nI (cn_nb c i)) 81 := vp_in_nI e (by decide)
      have vc : vp_in (nI c) 81 := vp_in_nI hc (by decide)
      have a := IT.1 c hc
      have a2 := IT.1 (cn_nb c i) e
      rw [cn_e_t e]
      refine br_f (cn_m4 (by omega)) ⟨vt, ?_⟩
      rw [ct, ci, hs2 _ e, hs2 c hc]
      refine pk_le 1000000 (T.2 (cn_nb c i)) (fun q => skip (fun z => ?_)) (fun q => ⟨vt, vt, vc, ?_⟩)
      · have := z.2.1
        omega
      · have z : B (cn_nb c i) = 0 := Classical.byContradiction (fun y => by have := IT.2 _ e y; omega)
        rw [hcy _ e z, nI_add]
        refine pk_le (T.2 c) (T.2 (cn_nb c i) + k (cn_nb c i)) (fun q2 => skip (fun z => ?_)) (fun q2 => ⟨vt, vt, vc, st ⟨e, q, q2⟩⟩)
        have := z.2.2
        omega
    · rw [cn_e_f e]
      exact br_t rfl (skip (fun z => e z.1))
theorem cn_iaY {post : SY → Prop} {J : Int32 → Int32 → Int32 → Int32 → Int32 → Int32 → (Nat → Int32) → (Nat → Int32) → (Nat → Int32) → Prop} (f1 f2 f3 f4 : Int32) (r : Nat) (B cy dy : Nat → Int32) {k D : Nat → Nat} {b : Nat} (hk : ∀ j, 1 ≤ k j ∧ k j ≤ 37) (hcy : ∀ j, j < 81 → B j = 0 → cy j = nI (k j))
    (I : cn_Iv B b D) (hb : b ≤ 25976) (hdy : ∀ j, j < 81 → dy j = nI (D j))
    (h : ∀ dy', (∀ j, j < 81 → dy' j = nI ((cn_sw B k D 81).2 j)) → J (cn_b (cn_sw B k D 81).1) (nI (r + 1)) f1 f2 f3 f4 B cy dy') : ∃ n, wY_findDistances_72 post J (nI r) n 0 0 f1 f2 f3 f4 B cy dy := by
  refine loop_0 (fun n i s => wY_findDistances_72 post J (nI r) n (cn_b s.1) (nI i) f1 f2 f3 f4 B cy s.2) (fun i s => s.1 = (cn_sw B k D i).1 ∧ ∀ j, j < 81 → s.2 j = nI ((cn_sw B k D i).2 j)) 81 (false, dy) ⟨rfl, hdy⟩ (fun n s hs => ?_) (fun n i s hi hs kk => ?_)
  · refine br_t (nI_le (Nat.le_refl 81) (by decide)) (nm_r (nI_1 r) ?_)
    rw [hs.1]
    exact h s.2 hs.2
  · have IT := cn_ind_sw B k (fun b D => cn_Iv B b D) (fun b D c d _ hB _ hcd I => cn_Iv_s hk b D c d hB hcd I) (fun b D I => cn_Iv_w b D I) D b I i (by omega)
    obtain ⟨hs1, hs2⟩ := hs
    refine br_f (nI_ge hi (by decide)) ⟨vp_in_nI hi (by decide), ?_⟩
    rw [nI_clamp (by omega)]
    by_cases e : B i = 0
    · rw [cn_sw_t k D e] at kk
      generalize cn_sw B k D i = T at hs1 hs2 IT kk
      refine br_t e (cn_imY f1 f2 f3 f4 B cy s.2 hk hcy hi e IT (by omega) hs2 (fun dy' hdy' => ?_))
      generalize cn_rx k i (false, T.2) 4 = U at hdy' kk
      dsimp only
      cases hu : U.1 with
      | false =>
        refine br_t rfl (nm_r (nI_1 i) (kk (s.1, dy') ⟨?_, hdy'⟩))
        show s.1 = (T.1 || U.1)
        rw [hu, Bool.or_false, hs1]
      | true =>
        refine br_f (by decide) (nm_r (nI_1 i) (kk (true, dy') ⟨?_, hdy'⟩))
        show true = (T.1 || U.1)
        rw [hu, Bool.or_true]
    · rw [cn_sw_f k D e] at kk
      exact br_f e (nm_r (nI_1 i) (kk s ⟨hs1, hs2⟩))
theorem cn_f58 {post : SY → Prop} (f1 : Int32) (g R G : Nat) (B cy dy : Nat → Int32) (hR : R ≤ 3) (hG : G ≤ 9) (hcy : ∀ j, j < 81 → cy j = cn_K B R G j) (hdy : ∀ j, j < 81 → dy j = nI (cn_D0 B g j))
    (h : ∀ dy', (∀ j, j < 81 → dy' j = nI ((cn_rn B (cn_k B R G) (cn_D0 B g) 81).2 j)) → post (f1, nI g, nI R, nI G, B, cy, dy')) : ∃ n, wY_findDistances_58 post n 1 0 f1 (nI g) (nI R) (nI G) B cy dy := by
  have hk := cn_k_in B hR hG
  refine loop_0 (fun n i s => wY_findDistances_58 post n (cn_b s.1) (nI i) f1 (nI g) (nI R) (nI G) B cy s.2) (fun i s => s.1 = (cn_rn B (cn_k B R G) (cn_D0 B g) i).1 ∧ ∀ j, j < 81 → s.2 j = nI ((cn_rn B (cn_k B R G) (cn_D0 B g) i).2 j)) 81 (true, dy) ⟨rfl, hdy⟩ (fun n s hs => ?_) (fun n i s hi hs kk => ?_)
  · exact br_t (nI_le (Nat.le_refl 81) (by decide)) (h s.2 hs.2)
  · have IT := cn_rn_Iv (B := B) hk g i
    have stay := cn_rn_stay (B := B) (k := cn_k B R G) (D := cn_D0 B g) (n := i)
    obtain ⟨hs1, hs2⟩ := hs
    refine br_f (nI_ge hi (by decide)) ?_
    cases e : (cn_rn B (cn_k B R G) (cn_D0 B g) i).1 with
    | false =>
      rw [hs1, e]
      have st := stay e (81 - i)
      rw [show i + (81 - i) = 81 from by omega] at st
      rw [st] at h
      exact br_t rfl (h s.2 hs2)
    | true =>
      rw [cn_rn_t e] at kk
      rw [hs1, e]
      exact br_f (by decide) (cn_iaY f1 (nI g) (nI R) (nI G) i B cy s.2 hk (fun j hj hB => (hcy j hj).trans (cn_K_k hB)) IT (by omega) hs2 (fun dy' hdy' => kk (_, dy') ⟨rfl, hdy'⟩))
theorem cn_msY {post : SY → Prop} (f1 : Int32) (g R G : Nat) (B cy dy : Nat → Int32) (hg : g < 81) (hR : R ≤ 3) (hG : G ≤ 9)
    (h : ∀ cy' dy', (∀ j, j < 81 → cy' j = cn_K B R G j) → (∀ j, j < 81 → dy' j = nI ((cn_rn B (cn_k B R G) (cn_D0 B g) 81).2 j)) → post (f1, nI g, nI R, nI G, B, cy', dy')) : wpY_findDistances post (f1, nI g, nI R, nI G, B, cy, dy) := by
  refine loop_0 (fun n i s => wY_findDistances_2 post f1 (nI g) (nI R) (nI G) n (nI i) B s.1 s.2) (fun i s => (∀ j, j < i → s.1 j = cn_K B R G j) ∧ ∀ j, j < i → s.2 j = nI (cn_D0 B g j)) 81 (cy, dy) ⟨lt_0, lt_0⟩ (fun n s hs => ?_) (fun n i s hi hs kk => ?_)
  · exact br_t (nI_le (Nat.le_refl 81) (by decide)) (cn_f58 f1 g R G B s.1 s.2 hR hG hs.1 hs.2 (fun dy' hdy' => h s.1 dy' hs.1 hdy'))
  · have ci : (nI i).toNatClampNeg = i := nI_clamp (by omega)
    have vi : vp_in (nI i) 81 := vp_in_nI hi (by decide)
    refine br_f (nI_ge hi (by decide)) (cn_coY f1 (nI g) R G B s.1 s.2 hi hR ⟨vi, nm_r (e' := upd s.1 i (cn_K B R G i)) (by rw [ci]) ?_⟩)
    rw [ci]
    have go : ∀ v : Int32, v = nI (cn_D0 B g i) → ∀ a, a = upd s.2 i v → ∀ y, y = nI i + 1 → wY_findDistances_2 post f1 (nI g) (nI R) (nI G) n y B (upd s.1 i (cn_K B R G i)) a :=
      fun v hv => nm_e (nm_r (nI_1 i) (kk (upd s.1 i (cn_K B R G i), upd s.2 i v) ⟨cn_upd_lt hs.1 rfl, cn_upd_lt (f := fun j => nI (cn_D0 B g j)) hs.2 hv⟩))
    refine pk_eq i g (fun q => ⟨vi, br_c (fun e => ⟨vi, go 0 ?_⟩) (fun e => ⟨vi, go 1000000 ?_⟩)⟩) (fun q => ⟨vi, go 1000000 ?_⟩)
    · rw [show cn_D0 B g i = 0 from if_pos ⟨q, e⟩]; rfl
    · rw [cn_D0_all (q ▸ e)]; rfl
    · rw [show cn_D0 B g i = 1000000 from if_neg (fun y => q y.1)]; rfl
