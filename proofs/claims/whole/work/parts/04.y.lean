/-! 04: the reference's own small walks -/
theorem ty_gt {post : Int32 → Prop} {g : Nat} (hg : g < 2) (H : post 1) : wpY_isGraph post (nI g) := by
  rcases (by omega : g = 0 ∨ g = 1) with rfl | rfl
  · exact br_t (by decide) H
  · exact br_f (by decide) (br_t (by decide) H)
theorem ty_gf {post : Int32 → Prop} {g : Int32} (h : ¬ g = 0 ∧ ¬ g = 1) (H : post 0) : wpY_isGraph post g := br_f h.1 (br_f h.2 H)
theorem ty_pt {post : Int32 → Prop} {c o : Nat → Int32} {n a : Nat} (hn : n ≤ 7) (ha : a < n) (H : post 1) : wpY_point post (nI n, c, o) (nI a) :=
  br_f (nI_pos (by omega)) (br_f (nI_ge ha (by omega)) H)
theorem ty_pf {post : Int32 → Prop} {c o : Nat → Int32} {n : Nat} {a : Int32} (h : a < 0 ∨ (¬ a < 0 ∧ ¬ a < nI n)) (H : post 0) : wpY_point post (nI n, c, o) a := by
  rcases h with h | ⟨h1, h2⟩
  · exact br_t h H
  · exact br_f h1 (br_t (Int32.not_lt.mp h2) H)
theorem ty_at {post : Int32 → Prop} {N : Int32} {c o : Nat → Int32} {x y z : Int32} (g a b : Nat) (hx : x = nI g) (hy : y = nI a) (hz : z = nI b) (hl : 49 * g + 7 * a + b < 98) (H : post (c (49 * g + 7 * a + b))) : wpY_at post (N, c, o) x y z := by
  subst hx hy hz
  unfold wpY_at
  dsimp only
  rw [tg_plY, nI_clamp (by omega)]
  exact ⟨vp_in_nI hl (by omega), H⟩
theorem ty_set {post : SY → Prop} {N : Int32} {c o : Nat → Int32} {n g a b : Nat} {v : Int32} (hn : n ≤ 7) (hg : g < 2) (ha : a < n) (hb : b < n)
    (H : post (N, upd (upd c (49 * g + 7 * a + b) v) (49 * g + 7 * b + a) v, o)) : wpY_set post (N, c, o) (nI g) (nI a) (nI b) v := by
  unfold wpY_set
  dsimp only
  rw [tg_plY, tg_plY, nI_clamp (by omega), nI_clamp (by omega)]
  exact ⟨vp_in_nI (by omega) (by omega), nm_e ⟨vp_in_nI (by omega) (by omega), nm_e H⟩⟩
theorem ty_st_l {post : SY → Prop} {N : Int32} {c : Nat → Int32} (H : ∀ o', tg_O 7 (fun i => i) o' → post (N, c, o')) :
    ∀ d i o, i + d = 7 → (∀ j, j < i → o j = nI j) → ∀ e, d < e → wY_start_2 post N e (nI i) c o := by
  intro d
  induction d with
  | zero =>
    intro i o hi ho e he
    obtain ⟨e, rfl⟩ : ∃ k, e = k + 1 := ⟨e - 1, by omega⟩
    exact br_t (nI_le (a := 7) (by omega) (by omega)) (H o (fun j hj => ho j (by omega)))
  | succ d ih =>
    intro i o hi ho e he
    obtain ⟨e, rfl⟩ : ∃ k, e = k + 1 := ⟨e - 1, by omega⟩
    refine br_f (nI_ge (b := 7) (by omega) (by omega)) ⟨vp_in_nI (by omega) (by omega), nm_r (by rw [nI_clamp (by omega)]) (nm_r (nI_1 i) ?_)⟩
    refine ih (i + 1) _ (by omega) (fun j hj => ?_) e (by omega)
    by_cases z : j = i
    · rw [z, pk_us]
    · rw [pk_un z]; exact ho j (by omega)
theorem ty_st {post : SY → Prop} {N : Int32} {c o : Nat → Int32} {n : Nat} (hn : n ≤ 7) (H : ∀ o', tg_O n (tg_un n 0) o' → post (N, c, o')) : wpY_start post (N, c, o) :=
  ⟨8, ty_st_l (fun o' h' => H o' (fun i hi => by rw [h' i (by omega), tg_un0 n (by omega) i hi])) 7 0 o (by omega) (fun j hj => absurd hj (by omega)) 8 (by omega)⟩
/-! the step to the next order -/
theorem ty_lr_l {post : Int32 → SY → Prop} {c o : Nat → Int32} {p : Nat → Nat} {n : Nat} (hn : n ≤ 7) (hO : tg_O n p o) (hp : ∀ i, i < n → p i < n) :
    ∀ m, m + 1 ≤ n → wY_next_34 post (nI (tg_riseY p m) + (-1)) (nI n) c o → ∀ e, m < e → wY_next_7 post (nI n) c o e (nI m + (-1)) := by
  intro m
  induction m with
  | zero =>
    intro hm H e he
    obtain ⟨e, rfl⟩ : ∃ k, e = k + 1 := ⟨e - 1, by omega⟩
    have H2 : wY_next_34 post (nI 0 + (-1)) (nI n) c o := H
    rw [tg_m1] at H2 ⊢
    exact br_t tg_neg H2
  | succ m ih =>
    intro hm H e he
    obtain ⟨e, rfl⟩ : ∃ k, e = k + 1 := ⟨e - 1, by omega⟩
    have p1 := hp m (by omega)
    have p2 := hp (m + 1) (by omega)
    have e1 : o (nI m).toNatClampNeg = nI (p m) := by rw [nI_clamp (by omega)]; exact hO m (by omega)
    have e2 : o (nI m + 1).toNatClampNeg = nI (p (m + 1)) := by rw [nI_1, nI_clamp (by omega)]; exact hO (m + 1) (by omega)
    rw [pk_m1]
    refine br_f (nI_pos (by omega)) ⟨vp_in_nI (by omega) (by omega), by rw [nI_1]; exact vp_in_nI (by omega) (by omega), ?_⟩
    by_cases z : p (m + 1) < p m
    · refine br_f (by rw [e1, e2]; exact nI_ge z (by omega)) (nm_e ?_)
      rw [tg_riseY, if_pos z] at H
      exact ih (by omega) H e (by omega)
    · refine br_t (by rw [e1, e2]; exact nI_le (by omega) (by omega)) ?_
      rw [tg_riseY, if_neg z, pk_m1] at H
      exact H
theorem ty_rev {post : Int32 → SY → Prop} {N : Int32} {c : Nat → Int32} {n : Nat} (hn : n ≤ 7) :
    ∀ d p o lo hi, tg_O n p o → lo ≤ n → hi < n → hi ≤ lo + 2 * d → (∀ o', tg_O n (tg_rev d p lo hi) o' → post 1 (N, c, o')) → ∀ e, d < e → wY_next_112 post N e (nI lo) (nI hi) c o := by
  intro d
  induction d with
  | zero =>
    intro p o lo hi hO hl hh hd H e he
    obtain ⟨e, rfl⟩ : ∃ k, e = k + 1 := ⟨e - 1, by omega⟩
    exact br_t (nI_le (by omega) (by omega)) (H o hO)
  | succ d ih =>
    intro p o lo hi hO hl hh hd H e he
    obtain ⟨e, rfl⟩ : ∃ k, e = k + 1 := ⟨e - 1, by omega⟩
    by_cases z : lo < hi
    · rw [tg_rev, if_pos z] at H
      have vi : vp_in (nI lo) 7 := vp_in_nI (by omega) (by omega)
      have vj : vp_in (nI hi) 7 := vp_in_nI (by omega) (by omega)
      have hO' := tg_O_sw hO (i := lo) (j := hi) (by omega) hh
      obtain ⟨hi, rfl⟩ : ∃ k, hi = k + 1 := ⟨hi - 1, by omega⟩
      refine br_f (nI_ge z (by omega)) ⟨vi, nm_e ⟨vj, vi, nm_e ⟨vj, nm_e (nm_r (nI_1 lo) (nm_r (pk_m1 hi) ?_))⟩⟩⟩
      rw [nI_clamp (n := lo) (by omega), nI_clamp (n := hi + 1) (by omega)]
      exact ih _ _ (lo + 1) hi hO' (by omega) (by omega) (by omega) H e (by omega)
    · rw [tg_rev, if_neg z] at H
      exact br_t (nI_le (by omega) (by omega)) (H o hO)
theorem ty_jy {post : Int32 → SY → Prop} {N : Int32} {c o : Nat → Int32} {p : Nat → Nat} {n i : Nat} (hn : n ≤ 7) (hO : tg_O n p o) (hp : ∀ i, i < n → p i < n) :
    ∀ d, i + d < n → wY_next_73 post (nI i) (nI (tg_jY p i d)) N c o → ∀ e, d < e → wY_next_47 post (nI i) N c o e (nI (i + d)) := by
  intro d
  induction d with
  | zero =>
    intro hd H e he
    obtain ⟨e, rfl⟩ : ∃ k, e = k + 1 := ⟨e - 1, by omega⟩
    exact br_t (nI_le (by omega) (by omega)) H
  | succ d ih =>
    intro hd H e he
    obtain ⟨e, rfl⟩ : ∃ k, e = k + 1 := ⟨e - 1, by omega⟩
    have p1 := hp i (by omega)
    have p2 := hp (i + (d + 1)) (by omega)
    have e1 : o (nI i).toNatClampNeg = nI (p i) := by rw [nI_clamp (by omega)]; exact hO i (by omega)
    have e2 : o (nI (i + (d + 1))).toNatClampNeg = nI (p (i + (d + 1))) := by rw [nI_clamp (by omega)]; exact hO _ (by omega)
    refine br_f (nI_ge (by omega) (by omega)) ⟨vp_in_nI (by omega) (by omega), vp_in_nI (by omega) (by omega), ?_⟩
    by_cases z : p (i + (d + 1)) < p i
    · rw [tg_jY, if_pos z] at H
      exact br_f (by rw [e1, e2]; exact nI_ge z (by omega)) (nm_r (pk_m1 (i + d)) (ih (by omega) H e (by omega)))
    · rw [tg_jY, if_neg z] at H
      exact br_t (by rw [e1, e2]; exact nI_le (by omega) (by omega)) H
theorem ty_next {post : Int32 → SY → Prop} {c o : Nat → Int32} {n k : Nat} (h1 : 1 ≤ n) (h7 : n ≤ 7) (hk : k < tg_fac n) (hO : tg_O n (tg_un n k) o)
    (HA : k + 1 < tg_fac n → ∀ o', tg_O n (tg_un n (k + 1)) o' → post 1 (nI n, c, o')) (HB : ¬ k + 1 < tg_fac n → ∀ o', post 0 (nI n, c, o')) : wpY_next post (nI n, c, o) := by
  obtain ⟨hp, hY, hA, hB⟩ := tg_fact (tg_oks h1 h7 hk)
  unfold wpY_next
  dsimp only
  obtain ⟨m, rfl⟩ : ∃ m, n = m + 1 := ⟨n - 1, by omega⟩
  refine nm_r (tg_i2 m) ⟨m + 1, ty_lr_l h7 hO hp m (by omega) ?_ (m + 1) (by omega)⟩
  rw [Nat.add_sub_cancel] at hY
  rw [hY]
  have hr := tg_rise_le (tg_un (m + 1) k) m
  unfold wY_next_34
  by_cases z : k + 1 < tg_fac (m + 1)
  · obtain ⟨h0, hj, hn⟩ := hA z
    have HA' := HA z
    rw [Nat.add_sub_cancel] at h0 hn
    generalize tg_rise (tg_un (m + 1) k) m = r at h0 hn hr ⊢
    obtain ⟨r, rfl⟩ : ∃ q, r = q + 1 := ⟨r - 1, by omega⟩
    rw [pk_m1]
    have J := tg_jY_in (tg_un (m + 1) k) r (m + 1 - (r + 1))
    have ed : nI (r + (m + 1 - (r + 1))) = nI m := congrArg nI (by omega)
    refine br_t (nI_pos' (by omega)) (nm_r (tg_i1 m) ⟨m + 1, ?_⟩)
    rw [← ed]
    refine ty_jy h7 hO hp (m + 1 - (r + 1)) (by omega) ?_ (m + 1) (by omega)
    generalize ej : tg_jY (tg_un (m + 1) k) r (m + 1 - (r + 1)) = j at J
    have vi : vp_in (nI r) 7 := vp_in_nI (by omega) (by omega)
    have vj : vp_in (nI j) 7 := vp_in_nI (by omega) (by omega)
    have hO' := tg_O_sw hO (i := r) (j := j) (by omega) (by omega)
    refine ⟨vi, nm_e ⟨vj, vi, nm_e ⟨vj, nm_e (nm_r (nI_1 r) (nm_r (tg_i1 m) ⟨5, ?_⟩))⟩⟩⟩
    rw [nI_clamp (n := r) (by omega), nI_clamp (n := j) (by omega)]
    refine ty_rev h7 4 _ _ (r + 1) m hO' (by omega) (by omega) (by omega) (fun o2 h2 => HA' o2 ?_) 5 (by omega)
    rw [← ej] at h2
    exact tg_O_e h2 hn
  · have h0 := hB z
    rw [Nat.add_sub_cancel] at h0
    rw [h0, tg_m1]
    exact br_f (by decide) (HB z o)
