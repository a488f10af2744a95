/-! 07: what is owed (heads: claim/defs.txt) -/
def i_Rel (k : Nat) (u : SX) (v : SY) : Prop := ∃ (n : Nat) (c o o' : Nat → Int32), 1 ≤ n ∧ n ≤ 7 ∧ tg_Sy n c ∧ u = (nI n, nI (tg_fac n), c, o) ∧ v = (nI n, c, o')
theorem i_up {k : Nat} {u : SX} {v : SY} (h : i_Rel k u v) : i_Rel (k + 5) u v := h
theorem tg_Rl {k n : Nat} {c o o' : Nat → Int32} (h1 : 1 ≤ n) (h7 : n ≤ 7) (hc : tg_Sy n c) : i_Rel k (nI n, nI (tg_fac n), c, o) (nI n, c, o') := ⟨n, c, o, o', h1, h7, hc, rfl, rfl⟩
theorem tg_ini {n : Nat} (h1 : 1 ≤ n) (h7 : n ≤ 7) : i_Rel 1 (nI n, nI (tg_fac n), (fun _ => 0), (fun _ => 0)) (nI n, (fun _ => 0), (fun _ => 0)) := tg_Rl h1 h7 (fun _ _ _ _ _ _ => rfl)
theorem tg_trip (g a b : Int32) {n : Nat} (hn : n ≤ 7) :
    (∃ G A B : Nat, G < 2 ∧ A < n ∧ B < n ∧ g = nI G ∧ a = nI A ∧ b = nI B) ∨ (¬ g = 0 ∧ ¬ g = 1) ∨
    (∃ G : Nat, G < 2 ∧ g = nI G ∧ (a < 0 ∨ (¬ a < 0 ∧ ¬ a < nI n))) ∨
    (∃ G A : Nat, G < 2 ∧ A < n ∧ g = nI G ∧ a = nI A ∧ (b < 0 ∨ (¬ b < 0 ∧ ¬ b < nI n))) := by
  rcases tg_gr g with ⟨G, hG, eG⟩ | z
  · rcases tg_pt a (n := n) (by omega) with ⟨A, hA, eA⟩ | z
    · rcases tg_pt b (n := n) (by omega) with ⟨B, hB, eB⟩ | z
      · exact Or.inl ⟨G, A, B, hG, hA, hB, eG, eA, eB⟩
      · exact Or.inr (Or.inr (Or.inr ⟨G, A, hG, hA, eG, eA, z⟩))
    · exact Or.inr (Or.inr (Or.inl ⟨G, hG, eG, z⟩))
  · exact Or.inr (Or.inl z)
theorem i_vc0 (k0 : Int32) : wpX_init (fun u => wpY_init (fun v => i_Rel 1 u v) k0) k0 := by
  by_cases a : (1 : Int32) ≤ k0
  · by_cases b : k0 ≤ 7
    · have hp : ¬ k0 < 0 := by
        intro z
        rw [Int32.lt_iff_toInt_lt] at z
        rw [Int32.le_iff_toInt_le] at a
        have e1 : (1 : Int32).toInt = 1 := by decide
        have e0 : (0 : Int32).toInt = 0 := by decide
        omega
      obtain ⟨n, hn, rfl⟩ := nI_of2 (n := 7) (by decide) hp b
      have a' : nI 1 ≤ nI n := a
      have h1 : 1 ≤ n := (nI_leI (by omega) (by omega)).mp a'
      refine br_t a (br_t b ?_)
      unfold wX_init_38
      refine tx_fac h1 hn ?_
      exact br_t a (br_t b (tg_ini h1 hn))
    · refine br_t a (br_f b ?_)
      unfold wX_init_38
      refine tx_fac (n := 7) (by omega) (by omega) ?_
      exact br_t a (br_f b (tg_ini (n := 7) (by omega) (by omega)))
  · refine br_f a (br_t (by decide) ?_)
    unfold wX_init_38
    refine tx_fac (n := 1) (by omega) (by omega) ?_
    exact br_f a (tg_ini (n := 1) (by omega) (by omega))
theorem i_vc_paint {k : Nat} {u : SX} {v : SY} (I : i_Rel k u v) (hk : k + 5 ≤ 2561) (v1 : Int32) (v2 : Int32) (v3 : Int32) (v4 : Int32) : wpX_paint (fun r u' => wpY_paint (fun r' v' => r' = r ∧ i_Rel (k + 5) u' v') v v1 v2 v3 v4) u v1 v2 v3 v4 := by
  obtain ⟨n, c, o, o', h1, h7, hc, rfl, rfl⟩ := I
  rcases tg_trip v1 v2 v3 h7 with ⟨G, A, B, hG, hA, hB, rfl, rfl, rfl⟩ | z | ⟨G, hG, rfl, z⟩ | ⟨G, A, hG, hA, rfl, rfl, z⟩
  · unfold wpX_paint wpX_isPair
    dsimp only
    refine tx_gt hG (br_f tg_10 ?_)
    refine tx_pt h7 hA (br_f tg_10 ?_)
    refine tx_pt h7 hB (br_f tg_10 ?_)
    refine br_f tg_10 ?_
    refine tx_pl G A B rfl rfl rfl ?_
    refine ⟨vp_in_nI (by omega) (by omega), nm_r (congrArg c (nI_clamp (by omega))) ?_⟩
    refine tx_set h7 hG hA hB ?_
    dsimp only
    unfold wpY_paint
    dsimp only
    refine ty_gt hG (br_f tg_10 ?_)
    refine ty_pt h7 hA (br_f tg_10 ?_)
    refine ty_pt h7 hB (br_f tg_10 ?_)
    refine ty_at G A B rfl rfl rfl (by omega) ?_
    refine ty_set h7 hG hA hB ?_
    exact ⟨rfl, tg_Rl h1 h7 (tg_Sy_p h7 hc hA hB)⟩
  · unfold wpX_paint wpX_isPair
    dsimp only
    refine tx_gf z (br_t rfl ?_)
    refine br_t rfl ?_
    unfold wpY_paint
    dsimp only
    exact ty_gf z (br_t rfl ⟨rfl, tg_Rl h1 h7 hc⟩)
  · unfold wpX_paint wpX_isPair
    dsimp only
    refine tx_gt hG (br_f tg_10 ?_)
    refine tx_pf z (br_t rfl ?_)
    refine br_t rfl ?_
    unfold wpY_paint
    dsimp only
    refine ty_gt hG (br_f tg_10 ?_)
    exact ty_pf z (br_t rfl ⟨rfl, tg_Rl h1 h7 hc⟩)
  · unfold wpX_paint wpX_isPair
    dsimp only
    refine tx_gt hG (br_f tg_10 ?_)
    refine tx_pt h7 hA (br_f tg_10 ?_)
    refine tx_pf z (br_t rfl ?_)
    refine br_t rfl ?_
    unfold wpY_paint
    dsimp only
    refine ty_gt hG (br_f tg_10 ?_)
    refine ty_pt h7 hA (br_f tg_10 ?_)
    exact ty_pf z (br_t rfl ⟨rfl, tg_Rl h1 h7 hc⟩)
theorem i_vc_colour {k : Nat} {u : SX} {v : SY} (I : i_Rel k u v) (hk : k + 5 ≤ 2561) (v1 : Int32) (v2 : Int32) (v3 : Int32) : wpX_colour (fun r => wpY_colour (fun r' => r' = r ∧ i_Rel (k + 5) u v) v v1 v2 v3) u v1 v2 v3 := by
  obtain ⟨n, c, o, o', h1, h7, hc, rfl, rfl⟩ := I
  rcases tg_trip v1 v2 v3 h7 with ⟨G, A, B, hG, hA, hB, rfl, rfl, rfl⟩ | z | ⟨G, hG, rfl, z⟩ | ⟨G, A, hG, hA, rfl, rfl, z⟩
  · unfold wpX_colour wpX_isPair
    dsimp only
    refine tx_gt hG (br_f tg_10 ?_)
    refine tx_pt h7 hA (br_f tg_10 ?_)
    refine tx_pt h7 hB (br_f tg_10 ?_)
    refine br_f tg_10 ?_
    refine tx_pl G A B rfl rfl rfl ?_
    refine ⟨vp_in_nI (by omega) (by omega), ?_⟩
    rw [nI_clamp (by omega)]
    unfold wpY_colour
    dsimp only
    refine ty_gt hG (br_f tg_10 ?_)
    refine ty_pt h7 hA (br_f tg_10 ?_)
    refine ty_pt h7 hB (br_f tg_10 ?_)
    refine ty_at G A B rfl rfl rfl (by omega) ?_
    exact ⟨rfl, tg_Rl h1 h7 hc⟩
  · unfold wpX_colour wpX_isPair
    dsimp only
    refine tx_gf z (br_t rfl ?_)
    refine br_t rfl ?_
    unfold wpY_colour
    dsimp only
    exact ty_gf z (br_t rfl ⟨rfl, tg_Rl h1 h7 hc⟩)
  · unfold wpX_colour wpX_isPair
    dsimp only
    refine tx_gt hG (br_f tg_10 ?_)
    refine tx_pf z (br_t rfl ?_)
    refine br_t rfl ?_
    unfold wpY_colour
    dsimp only
    refine ty_gt hG (br_f tg_10 ?_)
    exact ty_pf z (br_t rfl ⟨rfl, tg_Rl h1 h7 hc⟩)
  · unfold wpX_colour wpX_isPair
    dsimp only
    refine tx_gt hG (br_f tg_10 ?_)
    refine tx_pt h7 hA (br_f tg_10 ?_)
    refine tx_pf z (br_t rfl ?_)
    refine br_t rfl ?_
    unfold wpY_colour
    dsimp only
    refine ty_gt hG (br_f tg_10 ?_)
    refine ty_pt h7 hA (br_f tg_10 ?_)
    exact ty_pf z (br_t rfl ⟨rfl, tg_Rl h1 h7 hc⟩)
theorem i_vc_copySwapped {k : Nat} {u : SX} {v : SY} (I : i_Rel k u v) (hk : k + 5 ≤ 2561) (v1 : Int32) (v2 : Int32) (v3 : Int32) : wpX_copySwapped (fun r u' => wpY_copySwapped (fun r' v' => r' = r ∧ i_Rel (k + 5) u' v') v v1 v2 v3) u v1 v2 v3 := by
  obtain ⟨n, c, o, o', h1, h7, hc, rfl, rfl⟩ := I
  rcases tg_trip v1 v2 v3 h7 with ⟨G, A, B, hG, hA, hB, rfl, rfl, rfl⟩ | z | ⟨G, hG, rfl, z⟩ | ⟨G, A, hG, hA, rfl, rfl, z⟩
  · refine tx_cs h7 hG hA hB hc (fun f o1 hf => ?_)
    refine ty_cs h7 hG hA hB (fun f' hf' => ?_)
    have hD : ∀ x y, x < n → y < n → tg_DX n 0 x y := fun x y hx hy => Or.inl ⟨hx, hy⟩
    have hD' : ∀ x y, x < n → y < n → tg_DY n 0 x y := fun x y hx hy => Or.inl hx
    have ef : f' = f := tg_CK_eq hf' hf hD' hD
    rw [ef]
    exact ⟨rfl, tg_Rl h1 h7 (tg_CK_s h7 (tg_sw_lt (fun x hx => hx) hA hB) hc hf hD)⟩
  · unfold wpX_copySwapped wpX_isPair
    dsimp only
    refine tx_gf z (br_t rfl ?_)
    refine br_t rfl ?_
    unfold wpY_copySwapped
    dsimp only
    exact ty_gf z (br_t rfl ⟨rfl, tg_Rl h1 h7 hc⟩)
  · unfold wpX_copySwapped wpX_isPair
    dsimp only
    refine tx_gt hG (br_f tg_10 ?_)
    refine tx_pf z (br_t rfl ?_)
    refine br_t rfl ?_
    unfold wpY_copySwapped
    dsimp only
    refine ty_gt hG (br_f tg_10 ?_)
    exact ty_pf z (br_t rfl ⟨rfl, tg_Rl h1 h7 hc⟩)
  · unfold wpX_copySwapped wpX_isPair
    dsimp only
    refine tx_gt hG (br_f tg_10 ?_)
    refine tx_pt h7 hA (br_f tg_10 ?_)
    refine tx_pf z (br_t rfl ?_)
    refine br_t rfl ?_
    unfold wpY_copySwapped
    dsimp only
    refine ty_gt hG (br_f tg_10 ?_)
    refine ty_pt h7 hA (br_f tg_10 ?_)
    exact ty_pf z (br_t rfl ⟨rfl, tg_Rl h1 h7 hc⟩)
theorem i_vc_layings {k : Nat} {u : SX} {v : SY} (I : i_Rel k u v) (hk : k + 5 ≤ 2561) : wpX_layings (fun r u' => wpY_layings (fun r' v' => r' = r ∧ i_Rel (k + 5) u' v') v) u := by
  obtain ⟨n, c, o, o', h1, h7, hc, rfl, rfl⟩ := I
  have hF := tg_fac_in n (by omega)
  obtain ⟨r, hX, hY⟩ := tm_count (c := c) (g := 0) (h := 1) h1 h7 (by omega) (by omega) (tg_fac n) 0 0 (by omega)
  unfold wpX_layings
  dsimp only
  unfold wpX_countLayings
  dsimp only
  refine tx_st h1 h7 (fun o1 ho1 => ?_)
  refine ⟨tg_fac n + 1, hX _ o1 (tg_fac n + 1) (fun _ => ho1) (by omega) (fun o2 => ?_)⟩
  dsimp only
  unfold wpY_layings
  dsimp only
  unfold wpY_count
  dsimp only
  refine ty_st h7 (fun o3 ho3 => ?_)
  exact ⟨tg_fac n + 1, hY _ o3 1 (tg_fac n + 1) (Or.inr ⟨rfl, by omega, ho3⟩) (by omega) (fun o4 => ⟨rfl, tg_Rl h1 h7 hc⟩)⟩
theorem i_vc_symmetries {k : Nat} {u : SX} {v : SY} (I : i_Rel k u v) (hk : k + 5 ≤ 2561) (v1 : Int32) : wpX_symmetries (fun r u' => wpY_symmetries (fun r' v' => r' = r ∧ i_Rel (k + 5) u' v') v v1) u v1 := by
  obtain ⟨n, c, o, o', h1, h7, hc, rfl, rfl⟩ := I
  have hF := tg_fac_in n (by omega)
  rcases tg_gr v1 with ⟨G, hG, rfl⟩ | z
  · obtain ⟨r, hX, hY⟩ := tm_count (c := c) (g := G) (h := G) h1 h7 hG hG (tg_fac n) 0 0 (by omega)
    unfold wpX_symmetries
    dsimp only
    refine tx_gt hG (br_f tg_10 ?_)
    unfold wpX_countLayings
    dsimp only
    refine tx_st h1 h7 (fun o1 ho1 => ?_)
    refine ⟨tg_fac n + 1, hX _ o1 (tg_fac n + 1) (fun _ => ho1) (by omega) (fun o2 => ?_)⟩
    dsimp only
    unfold wpY_symmetries
    dsimp only
    refine ty_gt hG (br_f tg_10 ?_)
    unfold wpY_count
    dsimp only
    refine ty_st h7 (fun o3 ho3 => ?_)
    exact ⟨tg_fac n + 1, hY _ o3 1 (tg_fac n + 1) (Or.inr ⟨rfl, by omega, ho3⟩) (by omega) (fun o4 => ⟨rfl, tg_Rl h1 h7 hc⟩)⟩
  · unfold wpX_symmetries
    dsimp only
    refine tx_gf z (br_t rfl ?_)
    unfold wpY_symmetries
    dsimp only
    exact ty_gf z (br_t rfl ⟨rfl, tg_Rl h1 h7 hc⟩)
theorem i_vc_laid {k : Nat} {u : SX} {v : SY} (I : i_Rel k u v) (hk : k + 5 ≤ 2561) (v1 : Int32) : wpX_laid (fun r u' => wpY_laid (fun r' v' => r' = r ∧ i_Rel (k + 5) u' v') v v1) u v1 := by
  obtain ⟨n, c, o, o', h1, h7, hc, rfl, rfl⟩ := I
  have hF := tg_fac_in n (by omega)
  rcases tg_pt v1 (n := n) (by omega) with ⟨A, hA, rfl⟩ | z
  · obtain ⟨r, hX, hY⟩ := tm_laid (c := c) h1 h7 hA (tg_fac n) 0 (by omega)
    unfold wpX_laid
    dsimp only
    refine tx_pt h7 hA (br_f tg_10 ?_)
    refine tx_st h1 h7 (fun o1 ho1 => ?_)
    refine ⟨tg_fac n + 1, hX _ o1 (tg_fac n + 1) (fun _ => ho1) (by omega) (fun o2 => ?_)⟩
    unfold wpY_laid
    dsimp only
    refine ty_pt h7 hA (br_f tg_10 ?_)
    refine ty_st h7 (fun o3 ho3 => ?_)
    exact ⟨tg_fac n + 1, hY _ o3 1 (tg_fac n + 1) (Or.inr ⟨rfl, by omega, ho3⟩) (by omega) (fun o4 => ⟨rfl, tg_Rl h1 h7 hc⟩)⟩
  · unfold wpX_laid
    dsimp only
    refine tx_pf z (br_t rfl ?_)
    unfold wpY_laid
    dsimp only
    exact ty_pf z (br_t rfl ⟨rfl, tg_Rl h1 h7 hc⟩)
theorem i_vc_mirror {k : Nat} {u : SX} {v : SY} (I : i_Rel k u v) (hk : k + 5 ≤ 2561) (v1 : Int32) (v2 : Int32) : wpX_mirror (fun r u' => wpY_mirror (fun r' v' => r' = r ∧ i_Rel (k + 5) u' v') v v1 v2) u v1 v2 := by
  obtain ⟨n, c, o, o', h1, h7, hc, rfl, rfl⟩ := I
  have hF := tg_fac_in n (by omega)
  rcases tg_gr v1 with ⟨G, hG, rfl⟩ | z
  · rcases tg_pt v2 (n := n) (by omega) with ⟨A, hA, rfl⟩ | z
    · obtain ⟨r, hX, hY⟩ := tm_mir (c := c) h1 h7 hG hA (tg_fac n) 0 (nI A) (by omega)
      unfold wpX_mirror
      dsimp only
      refine tx_gt hG (br_f tg_10 ?_)
      refine tx_pt h7 hA (br_f tg_10 ?_)
      refine tx_st h1 h7 (fun o1 ho1 => ?_)
      refine ⟨tg_fac n + 1, hX _ o1 (tg_fac n + 1) (fun _ => ho1) (by omega) (fun o2 => ?_)⟩
      unfold wpY_mirror
      dsimp only
      refine ty_gt hG (br_f tg_10 ?_)
      refine ty_pt h7 hA (br_f tg_10 ?_)
      refine ty_st h7 (fun o3 ho3 => ?_)
      exact ⟨tg_fac n + 1, hY _ o3 1 (tg_fac n + 1) (Or.inr ⟨rfl, by omega, ho3⟩) (by omega) (fun o4 => ⟨rfl, tg_Rl h1 h7 hc⟩)⟩
    · unfold wpX_mirror
      dsimp only
      refine tx_gt hG (br_f tg_10 ?_)
      refine tx_pf z (br_t rfl ?_)
      unfold wpY_mirror
      dsimp only
      refine ty_gt hG (br_f tg_10 ?_)
      exact ty_pf z (br_t rfl ⟨rfl, tg_Rl h1 h7 hc⟩)
  · unfold wpX_mirror
    dsimp only
    refine tx_gf z (br_t rfl ?_)
    unfold wpY_mirror
    dsimp only
    exact ty_gf z (br_t rfl ⟨rfl, tg_Rl h1 h7 hc⟩)
theorem i_vc_leastForm {k : Nat} {u : SX} {v : SY} (I : i_Rel k u v) (hk : k + 5 ≤ 2561) (v1 : Int32) : wpX_leastForm (fun r u' => wpY_leastForm (fun r' v' => r' = r ∧ i_Rel (k + 5) u' v') v v1) u v1 := by
  obtain ⟨n, c, o, o', h1, h7, hc, rfl, rfl⟩ := I
  have hF := tg_fac_in n (by omega)
  rcases tg_gr v1 with ⟨G, hG, rfl⟩ | z
  · have h0 : 0 < tg_fac n := by omega
    have hp := tg_hp h1 h7 h0
    obtain ⟨r, hX, hY⟩ := tm_form (c := c) h1 h7 hG (tg_fac n - 1) 0 (tg_fo c (tg_un n 0) G n 0 0) (by omega)
    unfold wpX_leastForm
    dsimp only
    refine tx_gt hG (br_f tg_10 ?_)
    refine tx_st h1 h7 (fun o1 ho1 => ?_)
    refine tx_fo h7 hG ho1 hp ?_
    refine ⟨tg_fac n + 1, hX _ o1 (tg_fac n + 1) ho1 (by omega) (fun o2 => ?_)⟩
    unfold wpY_leastForm
    dsimp only
    refine ty_gt hG (br_f tg_10 ?_)
    refine ty_st h7 (fun o3 ho3 => ?_)
    refine ty_fo h7 hG ho3 hp ?_
    refine ty_next h1 h7 h0 ho3 (fun q o4 ho4 => ?_) (fun q o4 => ?_)
    · exact ⟨tg_fac n + 1, hY _ o4 1 (tg_fac n + 1) (Or.inr ⟨rfl, by omega, ho4⟩) (by omega) (fun o5 => ⟨rfl, tg_Rl h1 h7 hc⟩)⟩
    · exact ⟨tg_fac n + 1, hY _ o4 0 (tg_fac n + 1) (Or.inl ⟨rfl, by omega⟩) (by omega) (fun o5 => ⟨rfl, tg_Rl h1 h7 hc⟩)⟩
  · unfold wpX_leastForm
    dsimp only
    refine tx_gf z (br_t rfl ?_)
    unfold wpY_leastForm
    dsimp only
    exact ty_gf z (br_t rfl ⟨rfl, tg_Rl h1 h7 hc⟩)
theorem i_vc_canLay {k : Nat} {u : SX} {v : SY} (I : i_Rel k u v) (hk : k + 5 ≤ 2561) (v1 : Int32) (v2 : Int32) (v3 : Int32) (v4 : Int32) : wpX_canLay (fun r u' => wpY_canLay (fun r' v' => r' = r ∧ i_Rel (k + 5) u' v') v v1 v2 v3 v4) u v1 v2 v3 v4 := by
  obtain ⟨n, c, o, o', h1, h7, hc, rfl, rfl⟩ := I
  have hF := tg_fac_in n (by omega)
  rcases tg_pt v1 (n := n) (by omega) with ⟨A, hA, rfl⟩ | z
  · rcases tg_pt v2 (n := n) (by omega) with ⟨B, hB, rfl⟩ | z
    · rcases tg_pt v3 (n := n) (by omega) with ⟨C, hC, rfl⟩ | z
      · rcases tg_pt v4 (n := n) (by omega) with ⟨D, hD, rfl⟩ | z
        · obtain ⟨r, hX, hY⟩ := tm_can (c := c) (b := nI B) (b' := nI D) h1 h7 hA hC (tg_fac n) 0 (by omega)
          unfold wpX_canLay
          dsimp only
          refine tx_pt h7 hA (br_f tg_10 ?_)
          refine tx_pt h7 hB (br_f tg_10 ?_)
          refine tx_pt h7 hC (br_f tg_10 ?_)
          refine tx_pt h7 hD (br_f tg_10 ?_)
          refine tx_st h1 h7 (fun o1 ho1 => ?_)
          refine ⟨tg_fac n + 1, hX _ o1 (tg_fac n + 1) (fun _ => ho1) (by omega) (fun o2 => ?_)⟩
          unfold wpY_canLay
          dsimp only
          refine ty_pt h7 hA (br_f tg_10 ?_)
          refine ty_pt h7 hB (br_f tg_10 ?_)
          refine ty_pt h7 hC (br_f tg_10 ?_)
          refine ty_pt h7 hD (br_f tg_10 ?_)
          refine ty_st h7 (fun o3 ho3 => ?_)
          exact ⟨tg_fac n + 1, hY _ o3 1 (tg_fac n + 1) (Or.inr ⟨rfl, by omega, ho3⟩) (by omega) (fun o4 => ⟨rfl, tg_Rl h1 h7 hc⟩)⟩
        · unfold wpX_canLay
          dsimp only
          refine tx_pt h7 hA (br_f tg_10 ?_)
          refine tx_pt h7 hB (br_f tg_10 ?_)
          refine tx_pt h7 hC (br_f tg_10 ?_)
          refine tx_pf z (br_t rfl ?_)
          unfold wpY_canLay
          dsimp only
          refine ty_pt h7 hA (br_f tg_10 ?_)
          refine ty_pt h7 hB (br_f tg_10 ?_)
          refine ty_pt h7 hC (br_f tg_10 ?_)
          exact ty_pf z (br_t rfl ⟨rfl, tg_Rl h1 h7 hc⟩)
      · unfold wpX_canLay
        dsimp only
        refine tx_pt h7 hA (br_f tg_10 ?_)
        refine tx_pt h7 hB (br_f tg_10 ?_)
        refine tx_pf z (br_t rfl ?_)
        unfold wpY_canLay
        dsimp only
        refine ty_pt h7 hA (br_f tg_10 ?_)
        refine ty_pt h7 hB (br_f tg_10 ?_)
        exact ty_pf z (br_t rfl ⟨rfl, tg_Rl h1 h7 hc⟩)
    · unfold wpX_canLay
      dsimp only
      refine tx_pt h7 hA (br_f tg_10 ?_)
      refine tx_pf z (br_t rfl ?_)
      unfold wpY_canLay
      dsimp only
      refine ty_pt h7 hA (br_f tg_10 ?_)
      exact ty_pf z (br_t rfl ⟨rfl, tg_Rl h1 h7 hc⟩)
  · unfold wpX_canLay
    dsimp only
    refine tx_pf z (br_t rfl ?_)
    unfold wpY_canLay
    dsimp only
    exact ty_pf z (br_t rfl ⟨rfl, tg_Rl h1 h7 hc⟩)
