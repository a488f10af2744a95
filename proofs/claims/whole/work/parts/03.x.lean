/-! 03: the class: isLaying, formOfOrder, copySwapped -/
theorem tx_ly_in {post : Int32 → Prop} {J : Int32 → Prop} {F : Int32} {c o : Nat → Int32} {p : Nat → Nat} {n g h a : Nat} (hn : n ≤ 7) (hg : g < 2) (hh : h < 2) (hO : tg_O n p o) (hp : ∀ i, i < n → p i < n) (ha : a < n)
    (hb : ∀ b, b ≤ a → ¬ c (49 * g + 7 * a + b) = c (49 * h + 7 * p a + p b) → post 0)
    (hJ : (∀ b, b ≤ a → c (49 * g + 7 * a + b) = c (49 * h + 7 * p a + p b)) → J (nI (a + 1))) :
    ∀ d b, b + d = a + 1 → (∀ b', b' < b → c (49 * g + 7 * a + b') = c (49 * h + 7 * p a + p b')) → ∀ e, d < e → wX_isLaying_13 post J (nI g) (nI h) (nI a) (nI n) F c o e (nI b) := by
  intro d
  induction d with
  | zero =>
    intro b hd hA e he
    obtain ⟨e, rfl⟩ : ∃ k, e = k + 1 := ⟨e - 1, by omega⟩
    exact br_t (nI_lt (by omega) (by omega)) (nm_r (nI_1 a) (hJ (fun b' hb' => hA b' (by omega))))
  | succ d ih =>
    intro b hd hA e he
    obtain ⟨e, rfl⟩ : ∃ k, e = k + 1 := ⟨e - 1, by omega⟩
    have pa := hp a ha
    have pb := hp b (by omega)
    refine br_f (nI_nlt (by omega) (by omega)) ?_
    refine tx_pl g a b rfl rfl rfl ?_
    refine ⟨vp_in_nI (by omega) (by omega), nm_r (congrArg c (nI_clamp (by omega))) ?_⟩
    refine ⟨vp_in_nI (by omega) (by omega), vp_in_nI (by omega) (by omega), ?_⟩
    refine tx_pl h (p a) (p b) rfl (by rw [nI_clamp (by omega)]; exact hO a ha) (by rw [nI_clamp (by omega)]; exact hO b (by omega)) ?_
    refine ⟨vp_in_nI (by omega) (by omega), nm_r (congrArg c (nI_clamp (by omega))) ?_⟩
    by_cases z : c (49 * g + 7 * a + b) = c (49 * h + 7 * p a + p b)
    · refine br_t z (nm_r (nI_1 b) (ih (b + 1) (by omega) (fun b' hb' => ?_) e (by omega)))
      by_cases w : b' = b
      · rw [w]; exact z
      · exact hA b' (by omega)
    · exact br_f z (hb b (by omega) z)
theorem tx_ly_out {post : Int32 → Prop} {F : Int32} {c o : Nat → Int32} {p : Nat → Nat} {n g h : Nat} (hn : n ≤ 7) (hg : g < 2) (hh : h < 2) (hO : tg_O n p o) (hp : ∀ i, i < n → p i < n)
    (H1 : tg_LY c p n g h → post 1) (H0 : ¬ tg_LY c p n g h → post 0) :
    ∀ d a, a + d = n → (∀ a', a' < a → ∀ b, b ≤ a' → c (49 * g + 7 * a' + b) = c (49 * h + 7 * p a' + p b)) → ∀ e, d < e → wX_isLaying_2 post (nI g) (nI h) (nI n) F c o e (nI a) := by
  intro d
  induction d with
  | zero =>
    intro a hd hA e he
    obtain ⟨e, rfl⟩ : ∃ k, e = k + 1 := ⟨e - 1, by omega⟩
    exact br_t (nI_le (by omega) (by omega)) (H1 (fun a' ha' => hA a' (by omega)))
  | succ d ih =>
    intro a hd hA e he
    obtain ⟨e, rfl⟩ : ∃ k, e = k + 1 := ⟨e - 1, by omega⟩
    refine br_f (nI_ge (by omega) (by omega)) ⟨a + 2, ?_⟩
    refine tx_ly_in hn hg hh hO hp (by omega) (fun b hb z => H0 (fun L => z (L a (by omega) b hb))) (fun hB => ?_) (a + 1) 0 (by omega) lt_0 (a + 2) (by omega)
    refine ih (a + 1) (by omega) (fun a' ha' => ?_) e (by omega)
    by_cases w : a' = a
    · rw [w]; exact hB
    · exact hA a' (by omega)
theorem tx_ly {post : Int32 → Prop} {F : Int32} {c o : Nat → Int32} {p : Nat → Nat} {n g h : Nat} (hn : n ≤ 7) (hg : g < 2) (hh : h < 2) (hO : tg_O n p o) (hp : ∀ i, i < n → p i < n)
    (H1 : tg_LY c p n g h → post 1) (H0 : ¬ tg_LY c p n g h → post 0) : wpX_isLaying post (nI n, F, c, o) (nI g) (nI h) :=
  ⟨n + 1, tx_ly_out hn hg hh hO hp H1 H0 n 0 (by omega) (fun a ha => absurd ha (by omega)) (n + 1) (by omega)⟩
theorem tx_fo_in {post : Int64 → Prop} {J : Int64 → Int32 → Prop} {F : Int32} {c o : Nat → Int32} {p : Nat → Nat} {n g a : Nat} (hn : n ≤ 7) (hg : g < 2) (hO : tg_O n p o) (hp : ∀ i, i < n → p i < n) (ha : a < n) :
    ∀ d b r, b + d = a + 1 → J (tg_fi c p g a d b r) (nI (a + 1)) → ∀ e, d < e → wX_formOfOrder_17 post J (nI g) (nI a) (nI n) F c o e r (nI b) := by
  intro d
  induction d with
  | zero =>
    intro b r hd H e he
    obtain ⟨e, rfl⟩ : ∃ k, e = k + 1 := ⟨e - 1, by omega⟩
    exact br_t (nI_lt (by omega) (by omega)) (nm_r (nI_1 a) H)
  | succ d ih =>
    intro b r hd H e he
    obtain ⟨e, rfl⟩ : ∃ k, e = k + 1 := ⟨e - 1, by omega⟩
    have pa := hp a ha
    have pb := hp b (by omega)
    refine br_f (nI_nlt (by omega) (by omega)) ⟨vp_in_nI (by omega) (by omega), vp_in_nI (by omega) (by omega), ?_⟩
    refine tx_pl g (p a) (p b) rfl (by rw [nI_clamp (by omega)]; exact hO a ha) (by rw [nI_clamp (by omega)]; exact hO b (by omega)) ?_
    refine ⟨vp_in_nI (by omega) (by omega), nm_r (congrArg (fun q => r * 4 + (c q).toInt64) (nI_clamp (by omega))) (nm_r (nI_1 b) ?_)⟩
    exact ih (b + 1) _ (by omega) H e (by omega)
theorem tx_fo_out {post : Int64 → Prop} {F : Int32} {c o : Nat → Int32} {p : Nat → Nat} {n g : Nat} (hn : n ≤ 7) (hg : g < 2) (hO : tg_O n p o) (hp : ∀ i, i < n → p i < n) :
    ∀ d a r, a + d = n → post (tg_fo c p g d a r) → ∀ e, d < e → wX_formOfOrder_5 post (nI g) (nI n) F c o e r (nI a) := by
  intro d
  induction d with
  | zero =>
    intro a r hd H e he
    obtain ⟨e, rfl⟩ : ∃ k, e = k + 1 := ⟨e - 1, by omega⟩
    exact br_t (nI_le (by omega) (by omega)) H
  | succ d ih =>
    intro a r hd H e he
    obtain ⟨e, rfl⟩ : ∃ k, e = k + 1 := ⟨e - 1, by omega⟩
    refine br_f (nI_ge (by omega) (by omega)) ⟨a + 2, ?_⟩
    exact tx_fo_in hn hg hO hp (by omega) (a + 1) 0 r (by omega) (ih (a + 1) _ (by omega) H e (by omega)) (a + 2) (by omega)
theorem tx_fo {post : Int64 → Prop} {F : Int32} {c o : Nat → Int32} {p : Nat → Nat} {n g : Nat} (hn : n ≤ 7) (hg : g < 2) (hO : tg_O n p o) (hp : ∀ i, i < n → p i < n) (H : post (tg_fo c p g n 0 0)) : wpX_formOfOrder post (nI n, F, c, o) (nI g) :=
  ⟨n + 1, tx_fo_out hn hg hO hp n 0 0 (by omega) H (n + 1) (by omega)⟩
def tg_DX (x y : Nat) : Nat → Nat → Prop := fun x' y' => (x' < x ∧ y' < x) ∨ (x' = x ∧ y' < y) ∨ (y' = x ∧ x' < y)
theorem tx_cs_in {post : Int32 → SX → Prop} {J : Int32 → Int32 → Int32 → (Nat → Int32) → (Nat → Int32) → Prop} {F : Int32} {c o : Nat → Int32} {s : Nat → Nat} {n g x : Nat} (hn : n ≤ 7) (hg : g < 2) (hO : tg_O n s o) (hs : ∀ i, i < n → s i < n) (hc : tg_Sy n c) (hx : x < n)
    (HJ : ∀ f, tg_CK c s n g (tg_DX (x + 1) 0) f → J (nI (x + 1)) (nI n) F f o) :
    ∀ d y f, y + d = x + 1 → tg_CK c s n g (tg_DX x y) f → ∀ e, d < e → wX_copySwapped_42 post J (nI g) (nI (1 - g)) (nI x) e (nI y) (nI n) F f o := by
  intro d
  induction d with
  | zero =>
    intro y f hd H e he
    obtain ⟨e, rfl⟩ : ∃ k, e = k + 1 := ⟨e - 1, by omega⟩
    refine br_t (nI_lt (by omega) (by omega)) (nm_r (nI_1 x) (HJ f (tg_CK_m H (fun x' y' hx' hy' z => ?_))))
    unfold tg_DX at z ⊢
    omega
  | succ d ih =>
    intro y f hd H e he
    obtain ⟨e, rfl⟩ : ∃ k, e = k + 1 := ⟨e - 1, by omega⟩
    have sx := hs x hx
    have sy := hs y (by omega)
    refine br_f (nI_nlt (by omega) (by omega)) ⟨vp_in_nI (by omega) (by omega), vp_in_nI (by omega) (by omega), ?_⟩
    refine tx_pl (1 - g) (s x) (s y) rfl (by rw [nI_clamp (by omega)]; exact hO x hx) (by rw [nI_clamp (by omega)]; exact hO y (by omega)) ?_
    refine ⟨vp_in_nI (by omega) (by omega), ?_⟩
    rw [nI_clamp (by omega)]
    refine tx_set hn hg hx (by omega) ?_
    refine nm_r (nI_1 y) ?_
    refine ih (y + 1) _ (by omega) (tg_CK_x hn hg hs hc H hx (by omega) (fun x' y' hx' hy' z => ?_)) e (by omega)
    unfold tg_DX at z ⊢
    omega
theorem tx_cs_out {post : Int32 → SX → Prop} {F : Int32} {c o : Nat → Int32} {s : Nat → Nat} {n g : Nat} (hn : n ≤ 7) (hg : g < 2) (hO : tg_O n s o) (hs : ∀ i, i < n → s i < n) (hc : tg_Sy n c)
    (H : ∀ f, tg_CK c s n g (tg_DX n 0) f → post 0 (nI n, F, f, o)) :
    ∀ d x f, x + d = n → tg_CK c s n g (tg_DX x 0) f → ∀ e, d < e → wX_copySwapped_30 post (nI g) (nI (1 - g)) e (nI x) (nI n) F f o := by
  intro d
  induction d with
  | zero =>
    intro x f hd hf e he
    obtain ⟨e, rfl⟩ : ∃ k, e = k + 1 := ⟨e - 1, by omega⟩
    have z : x = n := by omega
    rw [z] at hf
    exact br_t (nI_le (by omega) (by omega)) (H f hf)
  | succ d ih =>
    intro x f hd hf e he
    obtain ⟨e, rfl⟩ : ∃ k, e = k + 1 := ⟨e - 1, by omega⟩
    refine br_f (nI_ge (by omega) (by omega)) ⟨x + 2, ?_⟩
    exact tx_cs_in hn hg hO hs hc (by omega) (fun f' hf' => ih (x + 1) f' (by omega) hf' e (by omega)) (x + 1) 0 f (by omega) hf (x + 2) (by omega)
theorem tx_cs {post : Int32 → SX → Prop} {F : Int32} {c o : Nat → Int32} {n g a b : Nat} (hn : n ≤ 7) (hg : g < 2) (ha : a < n) (hb : b < n) (hc : tg_Sy n c)
    (H : ∀ f o', tg_CK c (tg_sw (fun i => i) a b) n g (tg_DX n 0) f → post 0 (nI n, F, f, o')) : wpX_copySwapped post (nI n, F, c, o) (nI g) (nI a) (nI b) := by
  unfold wpX_copySwapped
  dsimp only
  unfold wpX_isPair
  dsimp only
  refine tx_gt hg (br_f tg_10 ?_)
  refine tx_pt hn ha (br_f tg_10 ?_)
  refine tx_pt hn hb (br_f tg_10 ?_)
  refine br_f tg_10 ?_
  refine nm_r (show 1 - nI g = nI (1 - g) from pk_sub (a := 1) (by omega)) ?_
  refine tx_sti hn (fun o1 h1 => ?_)
  refine tx_sw hn h1 ha hb (fun o2 h2 => ?_)
  exact ⟨n + 1, tx_cs_out hn hg h2 (tg_sw_lt (fun x hx => hx) ha hb) hc (fun f hf => H f o2 hf) n 0 c (by omega) (tg_CK_0 (fun x y z => by unfold tg_DX at z; omega)) (n + 1) (by omega)⟩
