/-! 02: the class's own small walks -/
theorem tg_10 : ¬ (1 : Int32) = 0 := by decide
def tg_pr : Nat → Nat → Nat → Nat
  | 0, _, q => q
  | d + 1, f, q => tg_pr d (f + 1) (q * f)
theorem tg_prf : ∀ n, n < 8 → 1 ≤ n → tg_pr (n - 1) 2 1 = tg_fac n := by decide +kernel
theorem tx_fac_l {post : Int32 → Prop} {n : Nat} (hn : n ≤ 7) : ∀ d f q, f + d = n + 1 → post (nI (tg_pr d f q)) → ∀ e, d < e → wX_factorial_4 post (nI n) e (nI q) (nI f) := by
  intro d
  induction d with
  | zero =>
    intro f q hf H e he
    obtain ⟨e, rfl⟩ : ∃ k, e = k + 1 := ⟨e - 1, by omega⟩
    exact br_t (nI_lt (by omega) (by omega)) H
  | succ d ih =>
    intro f q hf H e he
    obtain ⟨e, rfl⟩ : ∃ k, e = k + 1 := ⟨e - 1, by omega⟩
    exact br_f (nI_nlt (by omega) (by omega)) (nm_r (pk_mul q f) (nm_r (nI_1 f) (ih (f + 1) (q * f) (by omega) H e (by omega))))
theorem tx_fac {post : Int32 → Prop} {n : Nat} (h1 : 1 ≤ n) (h7 : n ≤ 7) (H : post (nI (tg_fac n))) : wpX_factorial post (nI n) :=
  ⟨n + 1, tx_fac_l h7 (n - 1) 2 1 (by omega) (by rw [tg_prf n (by omega) h1]; exact H) (n + 1) (by omega)⟩
theorem tx_gt {post : Int32 → Prop} {g : Nat} (hg : g < 2) (H : post 1) : wpX_isGraph post (nI g) := by
  rcases (by omega : g = 0 ∨ g = 1) with rfl | rfl
  · exact br_t (by decide) H
  · exact br_f (by decide) (br_t (by decide) H)
theorem tx_gf {post : Int32 → Prop} {g : Int32} (h : ¬ g = 0 ∧ ¬ g = 1) (H : post 0) : wpX_isGraph post g := br_f h.1 (br_f h.2 H)
theorem tx_pt {post : Int32 → Prop} {F : Int32} {c o : Nat → Int32} {n a : Nat} (hn : n ≤ 7) (ha : a < n) (H : post 1) : wpX_isPoint post (nI n, F, c, o) (nI a) :=
  br_f (nI_pos (by omega)) (br_f (nI_ge ha (by omega)) H)
theorem tx_pf {post : Int32 → Prop} {F : Int32} {c o : Nat → Int32} {n : Nat} {a : Int32} (h : a < 0 ∨ (¬ a < 0 ∧ ¬ a < nI n)) (H : post 0) : wpX_isPoint post (nI n, F, c, o) a := by
  rcases h with h | ⟨h1, h2⟩
  · exact br_t h H
  · exact br_f h1 (br_t (Int32.not_lt.mp h2) H)
theorem tx_pl {post : Int32 → Prop} {x y z : Int32} (g a b : Nat) (hx : x = nI g) (hy : y = nI a) (hz : z = nI b) (H : post (nI (49 * g + 7 * a + b))) : wpX_place post x y z := by
  subst hx hy hz
  unfold wpX_place
  rw [tg_pl]
  exact H
theorem tx_set {post : SX → Prop} {F : Int32} {c o : Nat → Int32} {n g a b : Nat} {v : Int32} (hn : n ≤ 7) (hg : g < 2) (ha : a < n) (hb : b < n)
    (H : post (nI n, F, upd (upd c (49 * g + 7 * a + b) v) (49 * g + 7 * b + a) v, o)) : wpX_setColour post (nI n, F, c, o) (nI g) (nI a) (nI b) v := by
  unfold wpX_setColour
  dsimp only
  refine tx_pl g a b rfl rfl rfl ?_
  refine ⟨vp_in_nI (by omega) (by omega), nm_r (by rw [nI_clamp (by omega)]) ?_⟩
  refine tx_pl g b a rfl rfl rfl ?_
  exact ⟨vp_in_nI (by omega) (by omega), nm_r (by rw [nI_clamp (by omega)]) H⟩
theorem tx_sw {post : SX → Prop} {F : Int32} {c o : Nat → Int32} {p : Nat → Nat} {n i j : Nat} (hn : n ≤ 7) (hO : tg_O n p o) (hi : i < n) (hj : j < n)
    (H : ∀ o', tg_O n (tg_sw p i j) o' → post (nI n, F, c, o')) : wpX_swapInOrder post (nI n, F, c, o) (nI i) (nI j) := by
  have vi : vp_in (nI i) 7 := vp_in_nI (by omega) (by omega)
  have vj : vp_in (nI j) 7 := vp_in_nI (by omega) (by omega)
  refine ⟨vi, nm_e ⟨vj, vi, nm_e ⟨vj, nm_e (H _ ?_)⟩⟩⟩
  rw [nI_clamp (n := i) (by omega), nI_clamp (n := j) (by omega)]
  exact tg_O_sw hO hi hj
theorem tx_st_l {post : SX → Prop} {F : Int32} {c : Nat → Int32} {n : Nat} (hn : n ≤ 7) (H : ∀ o', tg_O n (fun i => i) o' → post (nI n, F, c, o')) :
    ∀ d i o, i + d = n → (∀ j, j < i → o j = nI j) → ∀ e, d < e → wX_startOrders_2 post (nI n) F e (nI i) c o := by
  intro d
  induction d with
  | zero =>
    intro i o hi ho e he
    obtain ⟨e, rfl⟩ : ∃ k, e = k + 1 := ⟨e - 1, by omega⟩
    exact br_t (nI_le (by omega) (by omega)) (H o (fun j hj => ho j (by omega)))
  | succ d ih =>
    intro i o hi ho e he
    obtain ⟨e, rfl⟩ : ∃ k, e = k + 1 := ⟨e - 1, by omega⟩
    refine br_f (nI_ge (by omega) (by omega)) ⟨vp_in_nI (by omega) (by omega), nm_r (by rw [nI_clamp (by omega)]) (nm_r (nI_1 i) ?_)⟩
    refine ih (i + 1) _ (by omega) (fun j hj => ?_) e (by omega)
    by_cases z : j = i
    · rw [z, pk_us]
    · rw [pk_un z]; exact ho j (by omega)
theorem tx_st {post : SX → Prop} {F : Int32} {c o : Nat → Int32} {n : Nat} (h1 : 1 ≤ n) (hn : n ≤ 7) (H : ∀ o', tg_O n (tg_un n 0) o' → post (nI n, F, c, o')) : wpX_startOrders post (nI n, F, c, o) :=
  ⟨n + 1, tx_st_l hn (fun o' h' => H o' (tg_O_e h' (fun i hi => (tg_un0 n (by omega) i hi).symm))) n 0 o (by omega) (fun j hj => absurd hj (by omega)) (n + 1) (by omega)⟩
theorem tx_sti {post : SX → Prop} {F : Int32} {c o : Nat → Int32} {n : Nat} (hn : n ≤ 7) (H : ∀ o', tg_O n (fun i => i) o' → post (nI n, F, c, o')) : wpX_startOrders post (nI n, F, c, o) :=
  ⟨n + 1, tx_st_l hn H n 0 o (by omega) (fun j hj => absurd hj (by omega)) (n + 1) (by omega)⟩
/-! the step to the next order -/
theorem tx_lr_l {post : Int32 → Prop} {F : Int32} {c o : Nat → Int32} {p : Nat → Nat} {n : Nat} (hn : n ≤ 7) (hO : tg_O n p o) (hp : ∀ i, i < n → p i < n) :
    ∀ m, m + 1 ≤ n → post (nI (tg_rise p m) + (-1)) → ∀ e, m < e → wX_lastRise_7 post (nI n) F c o e (nI m + (-1)) := by
  intro m
  induction m with
  | zero =>
    intro hm H e he
    obtain ⟨e, rfl⟩ : ∃ k, e = k + 1 := ⟨e - 1, by omega⟩
    have H2 : post (nI 0 + (-1)) := H
    rw [tg_m1] at H2 ⊢
    exact br_t tg_neg H2
  | succ m ih =>
    intro hm H e he
    obtain ⟨e, rfl⟩ : ∃ k, e = k + 1 := ⟨e - 1, by omega⟩
    have p1 := hp m (by omega)
    have p2 := hp (m + 1) (by omega)
    have e1 : o (nI m).toNatClampNeg = nI (p m) := by rw [nI_clamp (by omega)]; exact hO m (by omega)
    have e2 : o (nI m + 1).toNatClampNeg = nI (p (m + 1)) := by rw [nI_1, nI_clamp (by omega)]; exact hO (m + 1) (by omega)
    rw [pk_m1]
    refine br_f (nI_pos (by omega)) ⟨vp_in_nI (by omega) (by omega), by rw [nI_1]; exact vp_in_nI (by omega) (by omega), ?_⟩
    by_cases z : p m < p (m + 1)
    · refine br_f (by rw [e1, e2]; exact nI_ge z (by omega)) ?_
      rw [tg_rise, if_pos z, pk_m1] at H
      exact H
    · refine br_t (by rw [e1, e2]; exact nI_le (by omega) (by omega)) (nm_e ?_)
      rw [tg_rise, if_neg z] at H
      exact ih (by omega) H e (by omega)
theorem tx_rev {post : SX → Prop} {F : Int32} {c : Nat → Int32} {n : Nat} (hn : n ≤ 7) :
    ∀ d p o lo hi, tg_O n p o → lo ≤ n → hi < n → hi ≤ lo + 2 * d → (∀ o', tg_O n (tg_rev d p lo hi) o' → post (nI n, F, c, o')) → ∀ e, d < e → wX_nextOrder_67 post e (nI lo) (nI hi) (nI n) F c o := by
  intro d
  induction d with
  | zero =>
    intro p o lo hi hO hl hh hd H e he
    obtain ⟨e, rfl⟩ : ∃ k, e = k + 1 := ⟨e - 1, by omega⟩
    exact br_t (nI_le (by omega) (by omega)) (H o hO)
  | succ d ih =>
    intro p o lo hi hO hl hh hd H e he
    obtain ⟨e, rfl⟩ : ∃ k, e = k + 1 := ⟨e - 1, by omega⟩
    by_cases z : lo < hi
    · rw [tg_rev, if_pos z] at H
      refine br_f (nI_ge z (by omega)) ?_
      refine tx_sw hn hO (by omega) hh (fun o' hO' => ?_)
      obtain ⟨hi, rfl⟩ : ∃ k, hi = k + 1 := ⟨hi - 1, by omega⟩
      refine nm_r (nI_1 lo) (nm_r (pk_m1 hi) ?_)
      exact ih _ o' (lo + 1) hi hO' (by omega) (by omega) (by omega) H e (by omega)
    · rw [tg_rev, if_neg z] at H
      exact br_t (nI_le (by omega) (by omega)) (H o hO)
theorem tx_jx {post : SX → Prop} {F : Int32} {c o : Nat → Int32} {p : Nat → Nat} {n r : Nat} (hn : n ≤ 7) (hO : tg_O n p o) (hp : ∀ i, i < n → p i < n) (hr : r < n) :
    ∀ d i nx, i + d = n → (∀ e, 0 < e → wX_nextOrder_18 post (nI r) (nI n) F c o e (nI (tg_jX p r d i nx)) (nI n)) → ∀ e, d < e → wX_nextOrder_18 post (nI r) (nI n) F c o e (nI nx) (nI i) := by
  intro d
  induction d with
  | zero =>
    intro i nx hi H e he
    have z : i = n := by omega
    rw [z]
    exact H e (by omega)
  | succ d ih =>
    intro i nx hi H e he
    obtain ⟨e, rfl⟩ : ∃ k, e = k + 1 := ⟨e - 1, by omega⟩
    have p1 := hp i (by omega)
    have p2 := hp r hr
    have e1 : o (nI i).toNatClampNeg = nI (p i) := by rw [nI_clamp (by omega)]; exact hO i (by omega)
    have e2 : o (nI r).toNatClampNeg = nI (p r) := by rw [nI_clamp (by omega)]; exact hO r hr
    refine br_f (nI_ge (by omega) (by omega)) ⟨vp_in_nI (by omega) (by omega), vp_in_nI (by omega) (by omega), ?_⟩
    by_cases z : p r < p i
    · rw [tg_jX, if_pos z] at H
      exact br_f (by rw [e1, e2]; exact nI_ge z (by omega)) (nm_r (nI_1 i) (ih (i + 1) i (by omega) H e (by omega)))
    · rw [tg_jX, if_neg z] at H
      exact br_t (by rw [e1, e2]; exact nI_le (by omega) (by omega)) (nm_r (nI_1 i) (ih (i + 1) nx (by omega) H e (by omega)))
theorem tx_next {post : SX → Prop} {F : Int32} {c o : Nat → Int32} {n k : Nat} (h1 : 1 ≤ n) (h7 : n ≤ 7) (hk : k < tg_fac n) (hO : tg_O n (tg_un n k) o)
    (H : ∀ o', (k + 1 < tg_fac n → tg_O n (tg_un n (k + 1)) o') → post (nI n, F, c, o')) : wpX_nextOrder post (nI n, F, c, o) := by
  obtain ⟨hp, hY, hA, hB⟩ := tg_fact (tg_oks h1 h7 hk)
  unfold wpX_nextOrder
  dsimp only
  unfold wpX_lastRise
  dsimp only
  obtain ⟨m, rfl⟩ : ∃ m, n = m + 1 := ⟨n - 1, by omega⟩
  refine nm_r (tg_i2 m) ⟨m + 1, tx_lr_l h7 hO hp m (by omega) ?_ (m + 1) (by omega)⟩
  have hr := tg_rise_le (tg_un (m + 1) k) m
  by_cases z : k + 1 < tg_fac (m + 1)
  · obtain ⟨h0, hj, hn⟩ := hA z
    rw [Nat.add_sub_cancel] at h0 hj hn
    generalize tg_rise (tg_un (m + 1) k) m = r at h0 hj hn hr ⊢
    obtain ⟨r, rfl⟩ : ∃ q, r = q + 1 := ⟨r - 1, by omega⟩
    rw [pk_m1]
    refine br_t (nI_pos' (by omega)) (nm_r (nI_1 r) (nm_r (show nI r + 2 = nI (r + 1 + 1) from nI_add r 2) ⟨m + 1, ?_⟩))
    have J := tg_jY_in (tg_un (m + 1) k) r (m + 1 - (r + 1))
    rw [Nat.add_sub_cancel] at hj
    refine tx_jx h7 hO hp (by omega) (m + 1 - (r + 1) - 1) (r + 1 + 1) (r + 1) (by omega) (fun e he => ?_) (m + 1) (by omega)
    obtain ⟨e, rfl⟩ : ∃ q, e = q + 1 := ⟨e - 1, by omega⟩
    rw [← hj]
    refine br_t (nI_le (by omega) (by omega)) ?_
    refine tx_sw h7 hO (by omega) (by omega) (fun o' hO' => ?_)
    refine nm_r (nI_1 r) (nm_r (tg_i1 m) ⟨5, ?_⟩)
    refine tx_rev h7 4 _ o' (r + 1) m hO' (by omega) (by omega) (by omega) (fun o2 h2 => H o2 (fun _ => ?_)) 5 (by omega)
    exact tg_O_e h2 hn
  · have h0 := hB z
    rw [Nat.add_sub_cancel] at h0
    rw [h0, tg_m1]
    exact br_f (by decide) (H o (fun w => absurd w z))
