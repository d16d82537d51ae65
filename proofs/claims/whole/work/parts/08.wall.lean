/-! wall: both loops in step; the reference goes on idly behind the edge -/
theorem cn_w108 {post : Int32 → SY → Prop} {J : Int32 → Int32 → (Nat → Int32) → (Nat → Int32) → (Nat → Int32) → Prop} (x1 x2 x3 x4 x5 z : Int32) (hz : (x3 ≤ 0 ∧ z = 0) ∨ (¬ x3 ≤ 0 ∧ z = 1)) {i d : Nat} (hd : d < 81) (f1 f2 f3 f4 : Int32) (B cy dy : Nat → Int32)
    (h1 : B d = z → J x5 (nI (i + 1)) B cy dy) (h2 : ¬ B d = z → J (x5 + 1) (nI (i + 1)) (upd B d (vp_nar .boolean z)) cy dy) : wY_wall_108 post J x1 x2 x3 x4 x5 (nI i) 1 (nI d) f1 f2 f3 f4 B cy dy := by
  have ci : (nI d).toNatClampNeg = d := nI_clamp (by omega)
  have vd : vp_in (nI d) 81 := vp_in_nI hd (by decide)
  refine br_f (by decide) ⟨vd, ?_⟩
  rw [ci]
  rcases hz with ⟨a, rfl⟩ | ⟨a, rfl⟩
  · refine br_t a (br_c (fun e => nm_r (nI_1 i) (h1 e)) (fun e => br_t a ⟨vd, ?_⟩))
    rw [ci]
    exact nm_e (nm_e (nm_r (nI_1 i) (h2 e)))
  · refine br_f a (br_c (fun e => nm_r (nI_1 i) (h1 e)) (fun e => br_f a ⟨vd, ?_⟩))
    rw [ci]
    exact nm_e (nm_e (nm_r (nI_1 i) (h2 e)))
theorem cn_wYin {post : Int32 → SY → Prop} {c size stp room i n : Nat} {v2 v3 z x5 : Int32} (hc : c < 81) (hs : size ≤ 9) (hz : (v3 ≤ 0 ∧ z = 0) ∨ (¬ v3 ≤ 0 ∧ z = 1)) (hdn : (v2 = 0 ∧ stp = 1 ∧ room = 9 - c % 9) ∨ (¬ v2 = 0 ∧ stp = 9 ∧ room = 9 - c / 9)) (hi : i < size) (hr : i < room) (f1 f2 f3 f4 : Int32) (B cy dy : Nat → Int32)
    (h1 : B (c + i * stp) = z → wY_wall_40 post (nI c) v2 v3 (nI size) f1 f2 f3 f4 n x5 (nI (i + 1)) B cy dy)
    (h2 : ¬ B (c + i * stp) = z → wY_wall_40 post (nI c) v2 v3 (nI size) f1 f2 f3 f4 n (x5 + 1) (nI (i + 1)) (upd B (c + i * stp) (vp_nar .boolean z)) cy dy) : wY_wall_40 post (nI c) v2 v3 (nI size) f1 f2 f3 f4 (n + 1) x5 (nI i) B cy dy := by
  have r1 : nI c - nI c / 9 * 9 = nI (c % 9) := pk_rem (d := 9) (by omega) (by decide) (by decide)
  have d1 : nI c / 9 = nI (c / 9) := pk_div (d := 9) (by omega) (by decide) (by decide)
  refine br_f (nI_ge hi (by omega)) ?_
  rcases hdn with ⟨h, rfl, rfl⟩ | ⟨h, rfl, rfl⟩
  · refine br_t h ⟨by decide, ?_⟩
    rw [r1, nI_add]
    refine br_f (nI_ge (b := 9) (by omega) (by decide)) (br_t h ?_)
    rw [nI_add]
    rw [Nat.mul_one] at h1 h2
    exact cn_w108 _ _ _ _ _ z hz (by omega) _ _ _ _ _ _ _ h1 h2
  · refine br_f h ⟨by decide, ?_⟩
    rw [d1, nI_add]
    refine br_f (nI_ge (b := 9) (by omega) (by decide)) (br_f h ?_)
    rw [show nI c + 9 * nI i = nI (c + i * 9) from by rw [show (9 : Int32) * nI i = nI (9 * i) from pk_mul 9 i, nI_add, Nat.mul_comm]]
    exact cn_w108 _ _ _ _ _ z hz (by omega) _ _ _ _ _ _ _ h1 h2
theorem cn_wYout {post : Int32 → SY → Prop} {c size stp room i n : Nat} {v2 v3 x5 : Int32} (hc : c < 81) (hs : size ≤ 9) (hdn : (v2 = 0 ∧ stp = 1 ∧ room = 9 - c % 9) ∨ (¬ v2 = 0 ∧ stp = 9 ∧ room = 9 - c / 9)) (hi : i < size) (hr : room ≤ i) (f1 f2 f3 f4 : Int32) (B cy dy : Nat → Int32)
    (h1 : wY_wall_40 post (nI c) v2 v3 (nI size) f1 f2 f3 f4 n x5 (nI (i + 1)) B cy dy) : wY_wall_40 post (nI c) v2 v3 (nI size) f1 f2 f3 f4 (n + 1) x5 (nI i) B cy dy := by
  have r1 : nI c - nI c / 9 * 9 = nI (c % 9) := pk_rem (d := 9) (by omega) (by decide) (by decide)
  have d1 : nI c / 9 = nI (c / 9) := pk_div (d := 9) (by omega) (by decide) (by decide)
  refine br_f (nI_ge hi (by omega)) ?_
  rcases hdn with ⟨h, rfl, rfl⟩ | ⟨h, rfl, rfl⟩
  · refine br_t h ⟨by decide, ?_⟩
    rw [r1, nI_add]
    exact br_t (nI_le (a := 9) (by omega) (by omega)) (br_t h (br_t rfl (nm_r (nI_1 i) h1)))
  · refine br_f h ⟨by decide, ?_⟩
    rw [d1, nI_add]
    exact br_t (nI_le (a := 9) (by omega) (by omega)) (br_f h (br_t rfl (nm_r (nI_1 i) h1)))
theorem cn_wal {c size stp room Len : Nat} {v2 v3 z : Int32} (hc : c < 81) (hs : size ≤ 9) (hz : (v3 ≤ 0 ∧ z = 0) ∨ (¬ v3 ≤ 0 ∧ z = 1)) (hdn : (v2 = 0 ∧ stp = 1 ∧ room = 9 - c % 9) ∨ (¬ v2 = 0 ∧ stp = 9 ∧ room = 9 - c / 9))
    (hL : (Len = room ∧ room ≤ size) ∨ (Len = size ∧ size ≤ room)) (f1 f2 f3 f4 : Int32) (cx dx cy dy : Nat → Int32) :
    ∀ m i (a : Int32) (B : Nat → Int32), i + m = Len → ∃ (r : Int32) (B' : Nat → Int32), (∀ post : Int32 → SX → Prop, post r (f1, f2, f3, f4, B', cx, dx) → wX_wall_102 post (nI c) z (nI Len) (nI stp) f1 f2 f3 f4 (m + 1) a (nI i) B cx dx) ∧
      (∀ post : Int32 → SY → Prop, post r (f1, f2, f3, f4, B', cy, dy) → wY_wall_40 post (nI c) v2 v3 (nI size) f1 f2 f3 f4 (size - Len + 1 + m) a (nI i) B cy dy) := by
  have idle : ∀ (e i : Nat) (a : Int32) (B : Nat → Int32), i + e = size → room ≤ i ∨ e = 0 → ∀ post : Int32 → SY → Prop, post a (f1, f2, f3, f4, B, cy, dy) → wY_wall_40 post (nI c) v2 v3 (nI size) f1 f2 f3 f4 (e + 1) a (nI i) B cy dy := by
    intro e
    induction e with
    | zero =>
      intro i a B hi _ post h
      exact br_t (nI_le (by omega) (by omega)) h
    | succ e ih =>
      intro i a B hi hr post h
      exact cn_wYout hc hs hdn (by omega) (by omega) f1 f2 f3 f4 B cy dy (ih (i + 1) a B (by omega) (Or.inl (by omega)) post h)
  intro m
  induction m with
  | zero =>
    intro i a B hi
    refine ⟨a, B, fun post h => br_t (nI_le (by omega) (by omega)) h, fun post h => idle (size - Len) i a B (by omega) (by omega) post h⟩
  | succ m ih =>
    intro i a B hi
    have hcell : c + i * stp < 81 := by
      rcases hdn with ⟨h, rfl, rfl⟩ | ⟨h, rfl, rfl⟩ <;> omega
    have ci : (nI (c + i * stp)).toNatClampNeg = c + i * stp := nI_clamp (by omega)
    have vi : vp_in (nI (c + i * stp)) 81 := vp_in_nI hcell (by decide)
    have ec : nI c + nI i * nI stp = nI (c + i * stp) := by rw [pk_mul, nI_add]
    by_cases e : B (c + i * stp) = z
    · obtain ⟨r, B', hX, hY⟩ := ih (i + 1) a B (by omega)
      refine ⟨r, B', fun post h => br_f (nI_ge (by omega) (by omega)) (nm_r ec ⟨vi, ?_⟩), fun post h => ?_⟩
      · rw [ci]
        exact br_t e (nm_r (nI_1 i) (hX post h))
      · exact cn_wYin hc hs hz hdn (by omega) (by omega) f1 f2 f3 f4 B cy dy (fun _ => hY post h) (fun z => absurd e z)
    · obtain ⟨r, B', hX, hY⟩ := ih (i + 1) (a + 1) (upd B (c + i * stp) (vp_nar .boolean z)) (by omega)
      refine ⟨r, B', fun post h => br_f (nI_ge (by omega) (by omega)) (nm_r ec ⟨vi, ?_⟩), fun post h => ?_⟩
      · rw [ci]
        exact br_f e ⟨vi, nm_e (nm_e (nm_r (nI_1 i) (hX post h)))⟩
      · exact cn_wYin hc hs hz hdn (by omega) (by omega) f1 f2 f3 f4 B cy dy (fun z => absurd z e) (fun _ => hY post h)
theorem cn_w2 {c w : Nat} {v2 v3 z : Int32} (hc : c < 81) (hs : w ≤ 9) (hz : (v3 ≤ 0 ∧ z = 0) ∨ (¬ v3 ≤ 0 ∧ z = 1)) (f1 f2 f3 f4 : Int32) (B cx dx cy dy : Nat → Int32) :
    ∃ (r : Int32) (B' : Nat → Int32), (∀ post : Int32 → SX → Prop, post r (f1, f2, f3, f4, B', cx, dx) → wX_wall_43 post (nI c) v2 z (nI w) f1 f2 f3 f4 B cx dx) ∧
      (∀ post : Int32 → SY → Prop, post r (f1, f2, f3, f4, B', cy, dy) → ∃ n, wY_wall_40 post (nI c) v2 v3 (nI w) f1 f2 f3 f4 n 0 0 B cy dy) := by
  have r1 : nI c - nI c / 9 * 9 = nI (c % 9) := pk_rem (d := 9) (by omega) (by decide) (by decide)
  have d1 : nI c / 9 = nI (c / 9) := pk_div (d := 9) (by omega) (by decide) (by decide)
  by_cases h : v2 = 0
  · have e9 : (9 : Int32) - nI (c % 9) = nI (9 - c % 9) := pk_sub (a := 9) (by omega)
    by_cases q : 9 - c % 9 ≤ w
    · obtain ⟨r, B', hX, hY⟩ := cn_wal (stp := 1) hc hs hz (Or.inl ⟨h, rfl, rfl⟩) (Or.inl ⟨rfl, q⟩) f1 f2 f3 f4 cx dx cy dy (9 - c % 9) 0 0 B (by omega)
      refine ⟨r, B', fun post hp => br_t h ⟨by decide, ?_⟩, fun post hp => ⟨_, hY post hp⟩⟩
      rw [r1, e9]
      exact br_t (nI_le q (by omega)) (br_t h ⟨_, hX post hp⟩)
    · obtain ⟨r, B', hX, hY⟩ := cn_wal (stp := 1) (Len := w) hc hs hz (Or.inl ⟨h, rfl, rfl⟩) (Or.inr ⟨rfl, by omega⟩) f1 f2 f3 f4 cx dx cy dy w 0 0 B (by omega)
      refine ⟨r, B', fun post hp => br_t h ⟨by decide, ?_⟩, fun post hp => ⟨_, hY post hp⟩⟩
      rw [r1, e9]
      exact br_f (nI_ge (by omega) (by omega)) (br_t h ⟨_, hX post hp⟩)
  · have e9 : (9 : Int32) - nI (c / 9) = nI (9 - c / 9) := pk_sub (a := 9) (by omega)
    by_cases q : 9 - c / 9 ≤ w
    · obtain ⟨r, B', hX, hY⟩ := cn_wal (stp := 9) hc hs hz (Or.inr ⟨h, rfl, rfl⟩) (Or.inl ⟨rfl, q⟩) f1 f2 f3 f4 cx dx cy dy (9 - c / 9) 0 0 B (by omega)
      refine ⟨r, B', fun post hp => br_f h ⟨by decide, ?_⟩, fun post hp => ⟨_, hY post hp⟩⟩
      rw [d1, e9]
      exact br_t (nI_le q (by omega)) (br_f h ⟨_, hX post hp⟩)
    · obtain ⟨r, B', hX, hY⟩ := cn_wal (stp := 9) (Len := w) hc hs hz (Or.inr ⟨h, rfl, rfl⟩) (Or.inr ⟨rfl, by omega⟩) f1 f2 f3 f4 cx dx cy dy w 0 0 B (by omega)
      refine ⟨r, B', fun post hp => br_f h ⟨by decide, ?_⟩, fun post hp => ⟨_, hY post hp⟩⟩
      rw [d1, e9]
      exact br_f (nI_ge (by omega) (by omega)) (br_f h ⟨_, hX post hp⟩)
theorem cn_neg {v : Int32} (h1 : ¬ v < -9) (h2 : v ≤ 0) : ∃ w : Nat, w ≤ 9 ∧ -v = nI w ∧ (0 ≤ v → v = nI w) := by
  rw [Int32.lt_iff_toInt_lt, show (-9 : Int32).toInt = -9 from by decide] at h1
  rw [Int32.le_iff_toInt_le, show (0 : Int32).toInt = 0 from by decide] at h2
  have hn : (-v).toInt = -v.toInt := by
    rw [Int32.toInt_neg]
    exact Int.bmod_eq_of_le (by omega) (by omega)
  have a : ¬ (-v) < 0 := by
    rw [Int32.lt_iff_toInt_lt, hn, show (0 : Int32).toInt = 0 from by decide]; omega
  have b : (-v) ≤ 9 := by
    rw [Int32.le_iff_toInt_le, hn, show (9 : Int32).toInt = 9 from by decide]; omega
  obtain ⟨w, hw, e⟩ := nI_of2 (n := 9) (show (9 : Int32).toInt = 9 from by decide) a b
  refine ⟨w, hw, e, fun h0 => ?_⟩
  rw [Int32.le_iff_toInt_le, show (0 : Int32).toInt = 0 from by decide] at h0
  apply Int32.toInt_inj.mp
  rw [← e, hn]
  omega
