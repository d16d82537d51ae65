/-! what is owed -/
/-- both sides hold the same obstacles, cells, radius and gain; costs and distances are measured anew before they are read -/
def i_Rel (_ : Nat) (u : SX) (v : SY) : Prop := ∃ (r g R G : Nat) (B cx dx cy dy : Nat → Int32), r < 81 ∧ g < 81 ∧ R ≤ 3 ∧ G ≤ 9 ∧ u = (nI r, nI g, nI R, nI G, B, cx, dx) ∧ v = (nI r, nI g, nI R, nI G, B, cy, dy)
theorem cn_rel {r g R G : Nat} {B cx dx cy dy : Nat → Int32} (hr : r < 81) (hg : g < 81) (hR : R ≤ 3) (hG : G ≤ 9) {k : Nat} : i_Rel k (nI r, nI g, nI R, nI G, B, cx, dx) (nI r, nI g, nI R, nI G, B, cy, dy) := ⟨r, g, R, G, B, cx, dx, cy, dy, hr, hg, hR, hG, rfl, rfl⟩
theorem cn_mk {g R G : Nat} {B cx dx cy dy : Nat → Int32} (hR : R ≤ 3) (hG : G ≤ 9) (h1 : ∀ j, j < 81 → cx j = cn_K B R G j) (h2 : ∀ j, j < 81 → dx j = cn_ex ((cn_rn B (cn_k B R G) (cn_D0 B g) 81).2 j)) (h3 : ∀ j, j < 81 → cy j = cn_K B R G j) (h4 : ∀ j, j < 81 → dy j = nI ((cn_rn B (cn_k B R G) (cn_D0 B g) 81).2 j)) :
    cn_Ms B (cn_k B R G) g (cn_rn B (cn_k B R G) (cn_D0 B g) 81).2 cx dx cy dy :=
  ⟨cn_ok (cn_k_in B hR hG) g, cn_k_in B hR hG, fun j hj hB => (h1 j hj).trans (cn_K_k hB), h2, fun j hj hB => (h3 j hj).trans (cn_K_k hB), h4⟩
theorem cn_mk0 {g R G : Nat} {B cx dx : Nat → Int32} (hR : R ≤ 3) (hG : G ≤ 9) (h1 : ∀ j, j < 81 → cx j = cn_K B R G j) (h2 : ∀ j, j < 81 → dx j = cn_ex ((cn_rn B (cn_k B R G) (cn_D0 B g) 81).2 j)) :
    cn_Ms B (cn_k B R G) g (cn_rn B (cn_k B R G) (cn_D0 B g) 81).2 cx dx (fun j => cn_K B R G j) (fun j => nI ((cn_rn B (cn_k B R G) (cn_D0 B g) 81).2 j)) := cn_mk hR hG h1 h2 (fun _ _ => rfl) (fun _ _ => rfl)
theorem i_up {k : Nat} {u : SX} {v : SY} (h : i_Rel k u v) : i_Rel (k + 4) u v := h
theorem i_vc0 : wpX_init (fun u => wpY_init (fun v => i_Rel 0 u v)) := cn_rel (k := 0) (r := 0) (g := 80) (R := 1) (G := 3) (by decide) (by decide) (by decide) (by decide)
theorem i_vc_block {k : Nat} {u : SX} {v : SY} (I : i_Rel k u v) (hk : k + 4 ≤ 2048) (v1 : Int32) (v2 : Int32) : wpX_block (fun r u' => wpY_block (fun r' v' => r' = r ∧ i_Rel (k + 4) u' v') v v1 v2) u v1 v2 := by
  obtain ⟨r, g, R, G, B, cx, dx, cy, dy, hr, hg, hR, hG, rfl, rfl⟩ := I
  unfold wpX_block wpY_block
  dsimp only
  rcases cn_cell v1 with hb | ⟨c, hc, rfl⟩
  · exact cn_outX hb (br_t rfl (cn_outY _ hb (br_t rfl ⟨rfl, cn_rel hr hg hR hG⟩)))
  · have vi : vp_in (nI c) 81 := vp_in_nI hc (by decide)
    refine cn_inX hc (br_f (by decide) ⟨vi, ?_⟩)
    by_cases e : B (nI c).toNatClampNeg = 0
    · by_cases e2 : v2 = 0
      · exact br_t e (br_t e2 ⟨vi, nm_e (cn_inY _ hc (br_f (by decide) ⟨vi, br_t e (br_t e2 ⟨vi, nm_e ⟨rfl, cn_rel hr hg hR hG⟩⟩)⟩))⟩)
      · exact br_t e (br_f e2 ⟨vi, nm_e (cn_inY _ hc (br_f (by decide) ⟨vi, br_t e (br_f e2 ⟨vi, nm_e ⟨rfl, cn_rel hr hg hR hG⟩⟩)⟩))⟩)
    · by_cases e2 : v2 = 0
      · exact br_f e (br_t e2 ⟨vi, nm_e (cn_inY _ hc (br_f (by decide) ⟨vi, br_f e (br_t e2 ⟨vi, nm_e ⟨rfl, cn_rel hr hg hR hG⟩⟩)⟩))⟩)
      · exact br_f e (br_f e2 ⟨vi, nm_e (cn_inY _ hc (br_f (by decide) ⟨vi, br_f e (br_f e2 ⟨vi, nm_e ⟨rfl, cn_rel hr hg hR hG⟩⟩)⟩))⟩)
theorem i_vc_wall {k : Nat} {u : SX} {v : SY} (I : i_Rel k u v) (hk : k + 4 ≤ 2048) (v1 : Int32) (v2 : Int32) (v3 : Int32) : wpX_wall (fun r u' => wpY_wall (fun r' v' => r' = r ∧ i_Rel (k + 4) u' v') v v1 v2 v3) u v1 v2 v3 := by
  obtain ⟨r, g, R, G, B, cx, dx, cy, dy, hr, hg, hR, hG, rfl, rfl⟩ := I
  unfold wpX_wall wpY_wall
  dsimp only
  rcases cn_cell v1 with hb | ⟨c, hc, rfl⟩
  · exact cn_outX hb (br_t rfl (cn_outY _ hb (br_t rfl ⟨rfl, cn_rel hr hg hR hG⟩)))
  · refine cn_inX hc (br_f (by decide) (br_c (fun h => ?_) (fun h => ?_)))
    · exact cn_inY _ hc (br_f (by decide) (br_t h ⟨rfl, cn_rel hr hg hR hG⟩))
    · refine br_c (fun h9 => ?_) (fun h9 => ?_)
      · refine br_c (fun h0 => ?_) (fun h0 => ?_)
        · obtain ⟨w, hw, e1, e2⟩ := cn_neg h h0
          obtain ⟨a, B', hX, hY⟩ := cn_w2 (z := 0) (v2 := v2) hc hw (Or.inl ⟨h0, rfl⟩) (nI r) (nI g) (nI R) (nI G) B cx dx cy dy
          refine br_t rfl ?_
          rw [e1]
          refine hX _ (cn_inY _ hc (br_f (by decide) (br_f h (br_t h9 (br_c (fun z => ?_) (fun z => ?_))))))
          · have := hY (fun r' v' => r' = a ∧ i_Rel (k + 4) (nI r, nI g, nI R, nI G, B', cx, dx) v') ⟨rfl, cn_rel hr hg hR hG⟩
            rw [← e2 z] at this
            exact this
          · exact nm_e (hY _ ⟨rfl, cn_rel hr hg hR hG⟩)
        · have n0 : ¬ v3 < 0 := fun z => h0 (Int32.le_of_lt z)
          obtain ⟨w, hw, e1⟩ := nI_of2 (n := 9) (show (9 : Int32).toInt = 9 from by decide) n0 h9
          obtain ⟨a, B', hX, hY⟩ := cn_w2 (z := 1) (v2 := v2) hc hw (Or.inr ⟨h0, rfl⟩) (nI r) (nI g) (nI R) (nI G) B cx dx cy dy
          refine br_f (by decide) ?_
          subst e1
          refine hX _ (cn_inY _ hc (br_f (by decide) (br_f h (br_t h9 (br_t (Int32.not_lt.mp n0) (hY _ ⟨rfl, cn_rel hr hg hR hG⟩))))))
      · exact cn_inY _ hc (br_f (by decide) (br_f h (br_f h9 ⟨rfl, cn_rel hr hg hR hG⟩)))
theorem i_vc_tune {k : Nat} {u : SX} {v : SY} (I : i_Rel k u v) (hk : k + 4 ≤ 2048) (v1 : Int32) (v2 : Int32) : wpX_tune (fun r u' => wpY_tune (fun r' v' => r' = r ∧ i_Rel (k + 4) u' v') v v1 v2) u v1 v2 := by
  obtain ⟨r, g, R, G, B, cx, dx, cy, dy, hr, hg, hR, hG, rfl, rfl⟩ := I
  have J : i_Rel (k + 4) (nI r, nI g, nI R, nI G, B, cx, dx) (nI r, nI g, nI R, nI G, B, cy, dy) := cn_rel hr hg hR hG
  refine br_c (fun h1 => br_t h1 ⟨rfl, J⟩) (fun h1 => br_c (fun h2 => br_f h1 (br_t h2 ⟨rfl, J⟩)) (fun h2 => br_c (fun h3 => br_f h1 (br_f h2 (br_t h3 ⟨rfl, J⟩))) (fun h3 => br_c (fun h4 => br_f h1 (br_f h2 (br_f h3 (br_t h4 ⟨rfl, ?_⟩)))) (fun h4 => br_f h1 (br_f h2 (br_f h3 (br_f h4 ⟨rfl, J⟩)))))))
  obtain ⟨a, ha, rfl⟩ := nI_of2 (n := 3) (show (3 : Int32).toInt = 3 from by decide) h1 (Int32.not_lt.mp h2)
  obtain ⟨b, hb, rfl⟩ := nI_of2 (n := 9) (show (9 : Int32).toInt = 9 from by decide) h3 h4
  exact cn_rel hr hg ha hb
theorem i_vc_place {k : Nat} {u : SX} {v : SY} (I : i_Rel k u v) (hk : k + 4 ≤ 2048) (v1 : Int32) : wpX_place (fun r u' => wpY_place (fun r' v' => r' = r ∧ i_Rel (k + 4) u' v') v v1) u v1 := by
  obtain ⟨r, g, R, G, B, cx, dx, cy, dy, hr, hg, hR, hG, rfl, rfl⟩ := I
  unfold wpX_place wpY_place
  dsimp only
  rcases cn_cell v1 with hb | ⟨c, hc, rfl⟩
  · exact cn_outX hb (br_t rfl (cn_outY _ hb (br_t rfl ⟨rfl, cn_rel hr hg hR hG⟩)))
  · exact cn_inX hc (br_f (by decide) (cn_inY _ hc (br_f (by decide) ⟨rfl, cn_rel hc hg hR hG⟩)))
theorem i_vc_goal {k : Nat} {u : SX} {v : SY} (I : i_Rel k u v) (hk : k + 4 ≤ 2048) (v1 : Int32) : wpX_goal (fun r u' => wpY_goal (fun r' v' => r' = r ∧ i_Rel (k + 4) u' v') v v1) u v1 := by
  obtain ⟨r, g, R, G, B, cx, dx, cy, dy, hr, hg, hR, hG, rfl, rfl⟩ := I
  unfold wpX_goal wpY_goal
  dsimp only
  rcases cn_cell v1 with hb | ⟨c, hc, rfl⟩
  · exact cn_outX hb (br_t rfl (cn_outY _ hb (br_t rfl ⟨rfl, cn_rel hr hg hR hG⟩)))
  · exact cn_inX hc (br_f (by decide) (cn_inY _ hc (br_f (by decide) ⟨rfl, cn_rel hr hc hR hG⟩)))
theorem i_vc_blocked {k : Nat} {u : SX} {v : SY} (I : i_Rel k u v) (hk : k + 4 ≤ 2048) (v1 : Int32) : wpX_blocked (fun r => wpY_blocked (fun r' => r' = r ∧ i_Rel (k + 4) u v) v v1) u v1 := by
  obtain ⟨r, g, R, G, B, cx, dx, cy, dy, hr, hg, hR, hG, rfl, rfl⟩ := I
  have J : i_Rel (k + 4) (nI r, nI g, nI R, nI G, B, cx, dx) (nI r, nI g, nI R, nI G, B, cy, dy) := cn_rel hr hg hR hG
  unfold wpX_blocked wpY_blocked
  dsimp only
  rcases cn_cell v1 with hb | ⟨c, hc, rfl⟩
  · exact cn_outX hb (br_t rfl (cn_outY _ hb (br_t rfl ⟨rfl, J⟩)))
  · have vi : vp_in (nI c) 81 := vp_in_nI hc (by decide)
    exact cn_inX hc (br_f (by decide) ⟨vi, br_c (fun e => cn_inY _ hc (br_f (by decide) ⟨vi, br_t e ⟨rfl, J⟩⟩)) (fun e => cn_inY _ hc (br_f (by decide) ⟨vi, br_f e ⟨rfl, J⟩⟩))⟩)
theorem i_vc_clearance {k : Nat} {u : SX} {v : SY} (I : i_Rel k u v) (hk : k + 4 ≤ 2048) (v1 : Int32) : wpX_clearance (fun r => wpY_clearance (fun r' => r' = r ∧ i_Rel (k + 4) u v) v v1) u v1 := by
  obtain ⟨r, g, R, G, B, cx, dx, cy, dy, hr, hg, hR, hG, rfl, rfl⟩ := I
  have J : i_Rel (k + 4) (nI r, nI g, nI R, nI G, B, cx, dx) (nI r, nI g, nI R, nI G, B, cy, dy) := cn_rel hr hg hR hG
  unfold wpX_clearance
  dsimp only
  rcases cn_cell v1 with hb | ⟨c, hc, rfl⟩
  · refine cn_outX hb (br_t rfl ?_)
    unfold wpY_clearance
    dsimp only
    exact cn_outY _ hb (br_t rfl ⟨rfl, J⟩)
  · exact cn_inX hc (br_f (by decide) (cn_clX _ _ _ _ _ _ _ hc (cn_clY _ _ _ _ _ _ _ hc ⟨rfl, J⟩)))
theorem i_vc_cost {k : Nat} {u : SX} {v : SY} (I : i_Rel k u v) (hk : k + 4 ≤ 2048) (v1 : Int32) : wpX_cost (fun r => wpY_cost (fun r' => r' = r ∧ i_Rel (k + 4) u v) v v1) u v1 := by
  obtain ⟨r, g, R, G, B, cx, dx, cy, dy, hr, hg, hR, hG, rfl, rfl⟩ := I
  have J : i_Rel (k + 4) (nI r, nI g, nI R, nI G, B, cx, dx) (nI r, nI g, nI R, nI G, B, cy, dy) := cn_rel hr hg hR hG
  unfold wpX_cost
  dsimp only
  rcases cn_cell v1 with hb | ⟨c, hc, rfl⟩
  · refine cn_outX hb (br_t rfl ?_)
    unfold wpY_cost
    dsimp only
    exact cn_outY _ hb (br_t rfl ⟨rfl, J⟩)
  · exact cn_inX hc (br_f (by decide) (cn_coX _ _ _ _ _ _ _ hc hR (cn_coY _ _ _ _ _ _ _ hc hR ⟨rfl, J⟩)))
theorem i_vc_distance {k : Nat} {u : SX} {v : SY} (I : i_Rel k u v) (hk : k + 4 ≤ 2048) : wpX_distance (fun r u' => wpY_distance (fun r' v' => r' = r ∧ i_Rel (k + 4) u' v') v) u := by
  obtain ⟨r, g, R, G, B, cx, dx, cy, dy, hr, hg, hR, hG, rfl, rfl⟩ := I
  have vi : vp_in (nI r) 81 := vp_in_nI hr (by decide)
  have ci : (nI r).toNatClampNeg = r := nI_clamp (by omega)
  unfold wpX_distance wpY_distance wpY_distanceFrom
  dsimp only
  refine cn_msX _ g R G B cx dx hg hR hG (fun cx' dx' hcx hdx => ⟨vi, cn_inY _ hr (br_f (by decide) (cn_msY _ g R G B cy dy hg hR hG (fun cy' dy' hcy hdy => ⟨vi, ?_⟩)))⟩)
  have M := cn_mk hR hG hcx hdx hcy hdy
  have o := M.1.1 r hr
  dsimp only
  rw [ci, hdx r hr, hdy r hr]
  generalize (cn_rn B (cn_k B R G) (cn_D0 B g) 81).2 = D at o
  refine pk_eq (D r) 1000000 (fun e => ⟨?_, cn_rel hr hg hR hG⟩) (fun e => ⟨vi, ?_, cn_rel hr hg hR hG⟩)
  · rw [cn_ex_f (by omega)]
  · rw [cn_ex_t (by omega)]
theorem i_vc_distanceFrom {k : Nat} {u : SX} {v : SY} (I : i_Rel k u v) (hk : k + 4 ≤ 2048) (v1 : Int32) : wpX_distanceFrom (fun r u' => wpY_distanceFrom (fun r' v' => r' = r ∧ i_Rel (k + 4) u' v') v v1) u v1 := by
  obtain ⟨r, g, R, G, B, cx, dx, cy, dy, hr, hg, hR, hG, rfl, rfl⟩ := I
  unfold wpX_distanceFrom wpY_distanceFrom
  dsimp only
  rcases cn_cell v1 with hb | ⟨c, hc, rfl⟩
  · exact cn_outX hb (br_t rfl (cn_outY _ hb (br_t rfl ⟨rfl, cn_rel hr hg hR hG⟩)))
  · have vi : vp_in (nI c) 81 := vp_in_nI hc (by decide)
    have ci : (nI c).toNatClampNeg = c := nI_clamp (by omega)
    refine cn_inX hc (br_f (by decide) (cn_msX _ g R G B cx dx hg hR hG (fun cx' dx' hcx hdx => ⟨vi, cn_inY _ hc (br_f (by decide) (cn_msY _ g R G B cy dy hg hR hG (fun cy' dy' hcy hdy => ⟨vi, ?_⟩)))⟩)))
    have M := cn_mk hR hG hcx hdx hcy hdy
    have o := M.1.1 c hc
    dsimp only
    rw [ci, hdx c hc, hdy c hc]
    generalize (cn_rn B (cn_k B R G) (cn_D0 B g) 81).2 = D at o
    refine pk_eq (D c) 1000000 (fun e => ⟨?_, cn_rel hr hg hR hG⟩) (fun e => ⟨vi, ?_, cn_rel hr hg hR hG⟩)
    · rw [cn_ex_f (by omega)]
    · rw [cn_ex_t (by omega)]
theorem i_vc_next {k : Nat} {u : SX} {v : SY} (I : i_Rel k u v) (hk : k + 4 ≤ 2048) : wpX_next (fun r u' => wpY_next (fun r' v' => r' = r ∧ i_Rel (k + 4) u' v') v) u := by
  obtain ⟨r, g, R, G, B, cx, dx, cy, dy, hr, hg, hR, hG, rfl, rfl⟩ := I
  unfold wpX_next wpY_next
  dsimp only
  refine cn_msX _ g R G B cx dx hg hR hG (fun cx' dx' hcx hdx => ?_)
  have M0 := cn_mk0 hR hG hcx hdx
  refine cn_dfX _ _ _ M0 hr hg (cn_msY _ g R G B cy dy hg hR hG (fun cy' dy' hcy hdy => ?_))
  have M := cn_mk hR hG hcx hdx hcy hdy
  exact cn_dfY _ _ _ M hr hg ⟨rfl, cn_rel hr hg hR hG⟩
theorem i_vc_drive {k : Nat} {u : SX} {v : SY} (I : i_Rel k u v) (hk : k + 4 ≤ 2048) (v1 : Int32) : wpX_drive (fun r u' => wpY_drive (fun r' v' => r' = r ∧ i_Rel (k + 4) u' v') v v1) u v1 := by
  obtain ⟨r, g, R, G, B, cx, dx, cy, dy, hr, hg, hR, hG, rfl, rfl⟩ := I
  unfold wpX_drive wpY_drive
  dsimp only
  refine cn_msX _ g R G B cx dx hg hR hG (fun cx' dx' hcx hdx => ?_)
  have M0 := cn_mk0 hR hG hcx hdx
  dsimp only
  by_cases h0 : v1 ≤ 0
  · have h40 : ¬ (40 : Int32) ≤ v1 := fun z => absurd (Int32.le_trans z h0) (by decide)
    exact br_f h40 ⟨1, br_t h0 (cn_msY _ g R G B cy dy hg hR hG (fun cy' dy' hcy hdy => ⟨1, br_f (by decide) (br_t h0 ⟨rfl, cn_rel hr hg hR hG⟩)⟩))⟩
  · obtain ⟨m, hm, rfl⟩ := nI_of (x := v1) (fun z => h0 (Int32.le_of_lt z))
    by_cases h : 40 ≤ m
    · obtain ⟨a, c', hc', hX, hY⟩ := cn_drv (nI R) (nI G) M0 hg (nI m) 40 (by omega) (fun i hi => nI_ge (by omega) hm) (Or.inl (by decide)) 40 0 r rfl hr
      exact br_t (nI_le h hm) ⟨_, hX _ (cn_msY _ g R G B cy dy hg hR hG (fun cy' dy' hcy hdy => ⟨_, hY cy' dy' (cn_mk hR hG hcx hdx hcy hdy) _ ⟨rfl, cn_rel hc' hg hR hG⟩⟩))⟩
    · obtain ⟨a, c', hc', hX, hY⟩ := cn_drv (nI R) (nI G) M0 hg (nI m) m (by omega) (fun i hi => nI_ge (by omega) hm) (Or.inr (Int32.le_refl _)) m 0 r (by omega) hr
      exact br_f (nI_ge (b := 40) (by omega) (by decide)) ⟨_, hX _ (cn_msY _ g R G B cy dy hg hR hG (fun cy' dy' hcy hdy => ⟨_, hY cy' dy' (cn_mk hR hG hcx hdx hcy hdy) _ ⟨rfl, cn_rel hc' hg hR hG⟩⟩))⟩
theorem i_vc_where {k : Nat} {u : SX} {v : SY} (I : i_Rel k u v) (hk : k + 4 ≤ 2048) : wpX_where (fun r => wpY_where (fun r' => r' = r ∧ i_Rel (k + 4) u v) v) u := by
  obtain ⟨r, g, R, G, B, cx, dx, cy, dy, hr, hg, hR, hG, rfl, rfl⟩ := I
  exact ⟨rfl, cn_rel hr hg hR hG⟩
theorem i_vc_moves {k : Nat} {u : SX} {v : SY} (I : i_Rel k u v) (hk : k + 4 ≤ 2048) : wpX_moves (fun r u' => wpY_moves (fun r' v' => r' = r ∧ i_Rel (k + 4) u' v') v) u := by
  obtain ⟨r, g, R, G, B, cx, dx, cy, dy, hr, hg, hR, hG, rfl, rfl⟩ := I
  have vi : vp_in (nI r) 81 := vp_in_nI hr (by decide)
  have ci : (nI r).toNatClampNeg = r := nI_clamp (by omega)
  unfold wpX_moves wpY_moves
  dsimp only
  refine cn_msX _ g R G B cx dx hg hR hG (fun cx' dx' hcx hdx => ?_)
  have M0 := cn_mk0 hR hG hcx hdx
  have o := M0.1.1 r hr
  dsimp only
  refine ⟨vi, ?_⟩
  rw [ci, hdx r hr]
  by_cases e : (cn_rn B (cn_k B R G) (cn_D0 B g) 81).2 r < 1000000
  · rw [cn_ex_t e]
    obtain ⟨a, hX, hY⟩ := cn_mov (nI r) (nI R) (nI G) M0 hg 81 0 r rfl hr e
    refine br_f (cn_m4 (by omega)) ⟨_, hX _ (cn_msY _ g R G B cy dy hg hR hG (fun cy' dy' hcy hdy => ⟨vi, ?_⟩))⟩
    dsimp only
    rw [ci, hdy r hr]
    exact br_f (fun z => absurd ((nI_eq (b := 1000000) (by omega) (by decide)).mp z) (by omega)) ⟨_, hY cy' dy' (cn_mk hR hG hcx hdx hcy hdy) _ ⟨rfl, cn_rel hr hg hR hG⟩⟩
  · rw [cn_ex_f e]
    refine br_t rfl (cn_msY _ g R G B cy dy hg hR hG (fun cy' dy' hcy hdy => ⟨vi, ?_⟩))
    dsimp only
    rw [ci, hdy r hr, show (cn_rn B (cn_k B R G) (cn_D0 B g) 81).2 r = 1000000 from by omega]
    exact br_t rfl ⟨rfl, cn_rel hr hg hR hG⟩
theorem i_vc_reached {k : Nat} {u : SX} {v : SY} (I : i_Rel k u v) (hk : k + 4 ≤ 2048) : wpX_reached (fun r u' => wpY_reached (fun r' v' => r' = r ∧ i_Rel (k + 4) u' v') v) u := by
  obtain ⟨r, g, R, G, B, cx, dx, cy, dy, hr, hg, hR, hG, rfl, rfl⟩ := I
  unfold wpX_reached wpY_reached
  dsimp only
  refine cn_msX _ g R G B cx dx hg hR hG (fun cx' dx' hcx hdx => ?_)
  have M0 := cn_mk0 hR hG hcx hdx
  obtain ⟨a, hX, hY⟩ := cn_rea (nI r) (nI g) (nI R) (nI G) M0 81 0 0 rfl
  exact ⟨_, hX _ (cn_msY _ g R G B cy dy hg hR hG (fun cy' dy' hcy hdy => ⟨_, hY cy' dy' hdy _ ⟨rfl, cn_rel hr hg hR hG⟩⟩))⟩
theorem i_vc_farthest {k : Nat} {u : SX} {v : SY} (I : i_Rel k u v) (hk : k + 4 ≤ 2048) : wpX_farthest (fun r u' => wpY_farthest (fun r' v' => r' = r ∧ i_Rel (k + 4) u' v') v) u := by
  obtain ⟨r, g, R, G, B, cx, dx, cy, dy, hr, hg, hR, hG, rfl, rfl⟩ := I
  unfold wpX_farthest wpY_farthest
  dsimp only
  refine cn_msX _ g R G B cx dx hg hR hG (fun cx' dx' hcx hdx => ?_)
  have M0 := cn_mk0 hR hG hcx hdx
  obtain ⟨a, hX, hY⟩ := cn_fth (nI r) (nI g) (nI R) (nI G) M0 81 0 (-4) rfl (Int32.le_refl _)
  exact ⟨_, hX _ (cn_msY _ g R G B cy dy hg hR hG (fun cy' dy' hcy hdy => ⟨_, hY cy' dy' hdy _ ⟨rfl, cn_rel hr hg hR hG⟩⟩))⟩
