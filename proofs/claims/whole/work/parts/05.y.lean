/-! 05: the reference: lays, row, copySwapped -/
theorem ty_ly_in {post : Int32 → Prop} {J : Int32 → Prop} {N : Int32} {c o : Nat → Int32} {p : Nat → Nat} {n g h a : Nat} (hn : n ≤ 7) (hg : g < 2) (hh : h < 2) (hO : tg_O n p o) (hp : ∀ i, i < n → p i < n) (ha : a < n)
    (hb : ∀ b, b ≤ a → ¬ c (49 * g + 7 * a + b) = c (49 * h + 7 * p a + p b) → post 0)
    (hJ : (∀ b, b ≤ a → c (49 * g + 7 * a + b) = c (49 * h + 7 * p a + p b)) → J (nI (a + 1))) :
    ∀ d b, b + d = a + 1 → (∀ b', b' < b → c (49 * g + 7 * a + b') = c (49 * h + 7 * p a + p b')) → ∀ e, d < e → wY_lays_13 post J (nI g) (nI h) (nI a) N c o e (nI b) := by
  intro d
  induction d with
  | zero =>
    intro b hd hA e he
    obtain ⟨e, rfl⟩ : ∃ k, e = k + 1 := ⟨e - 1, by omega⟩
    exact br_t (nI_lt (by omega) (by omega)) (nm_r (nI_1 a) (hJ (fun b' hb' => hA b' (by omega))))
  | succ d ih =>
    intro b hd hA e he
    obtain ⟨e, rfl⟩ : ∃ k, e = k + 1 := ⟨e - 1, by omega⟩
    have pa := hp a ha
    have pb := hp b (by omega)
    refine br_f (nI_nlt (by omega) (by omega)) ?_
    refine ty_at g a b rfl rfl rfl (by omega) ?_
    refine ⟨vp_in_nI (by omega) (by omega), vp_in_nI (by omega) (by omega), ?_⟩
    refine ty_at h (p a) (p b) rfl (by rw [nI_clamp (by omega)]; exact hO a ha) (by rw [nI_clamp (by omega)]; exact hO b (by omega)) (by omega) ?_
    by_cases z : c (49 * g + 7 * a + b) = c (49 * h + 7 * p a + p b)
    · refine br_t z (nm_r (nI_1 b) (ih (b + 1) (by omega) (fun b' hb' => ?_) e (by omega)))
      by_cases w : b' = b
      · rw [w]; exact z
      · exact hA b' (by omega)
    · exact br_f z (hb b (by omega) z)
theorem ty_ly_out {post : Int32 → Prop} {c o : Nat → Int32} {p : Nat → Nat} {n g h : Nat} (hn : n ≤ 7) (hg : g < 2) (hh : h < 2) (hO : tg_O n p o) (hp : ∀ i, i < n → p i < n)
    (H1 : tg_LY c p n g h → post 1) (H0 : ¬ tg_LY c p n g h → post 0) :
    ∀ d a, a + d = n → (∀ a', a' < a → ∀ b, b ≤ a' → c (49 * g + 7 * a' + b) = c (49 * h + 7 * p a' + p b)) → ∀ e, d < e → wY_lays_2 post (nI g) (nI h) (nI n) c o e (nI a) := by
  intro d
  induction d with
  | zero =>
    intro a hd hA e he
    obtain ⟨e, rfl⟩ : ∃ k, e = k + 1 := ⟨e - 1, by omega⟩
    exact br_t (nI_le (by omega) (by omega)) (H1 (fun a' ha' => hA a' (by omega)))
  | succ d ih =>
    intro a hd hA e he
    obtain ⟨e, rfl⟩ : ∃ k, e = k + 1 := ⟨e - 1, by omega⟩
    refine br_f (nI_ge (by omega) (by omega)) ⟨a + 2, ?_⟩
    refine ty_ly_in hn hg hh hO hp (by omega) (fun b hb z => H0 (fun L => z (L a (by omega) b hb))) (fun hB => ?_) (a + 1) 0 (by omega) lt_0 (a + 2) (by omega)
    refine ih (a + 1) (by omega) (fun a' ha' => ?_) e (by omega)
    by_cases w : a' = a
    · rw [w]; exact hB
    · exact hA a' (by omega)
theorem ty_ly {post : Int32 → Prop} {c o : Nat → Int32} {p : Nat → Nat} {n g h : Nat} (hn : n ≤ 7) (hg : g < 2) (hh : h < 2) (hO : tg_O n p o) (hp : ∀ i, i < n → p i < n)
    (H1 : tg_LY c p n g h → post 1) (H0 : ¬ tg_LY c p n g h → post 0) : wpY_lays post (nI n, c, o) (nI g) (nI h) :=
  ⟨n + 1, ty_ly_out hn hg hh hO hp H1 H0 n 0 (by omega) (fun a ha => absurd ha (by omega)) (n + 1) (by omega)⟩
theorem ty_fo_in {post : Int64 → Prop} {J : Int64 → Int32 → Prop} {N : Int32} {c o : Nat → Int32} {p : Nat → Nat} {n g a : Nat} (hn : n ≤ 7) (hg : g < 2) (hO : tg_O n p o) (hp : ∀ i, i < n → p i < n) (ha : a < n) :
    ∀ d b r, b + d = a + 1 → J (tg_fi c p g a d b r) (nI (a + 1)) → ∀ e, d < e → wY_row_17 post J (nI g) (nI a) N c o e r (nI b) := by
  intro d
  induction d with
  | zero =>
    intro b r hd H e he
    obtain ⟨e, rfl⟩ : ∃ k, e = k + 1 := ⟨e - 1, by omega⟩
    exact br_t (nI_lt (by omega) (by omega)) (nm_r (nI_1 a) H)
  | succ d ih =>
    intro b r hd H e he
    obtain ⟨e, rfl⟩ : ∃ k, e = k + 1 := ⟨e - 1, by omega⟩
    have pa := hp a ha
    have pb := hp b (by omega)
    refine br_f (nI_nlt (by omega) (by omega)) ⟨vp_in_nI (by omega) (by omega), vp_in_nI (by omega) (by omega), ?_⟩
    refine ty_at g (p a) (p b) rfl (by rw [nI_clamp (by omega)]; exact hO a ha) (by rw [nI_clamp (by omega)]; exact hO b (by omega)) (by omega) ?_
    refine nm_e (nm_r (nI_1 b) ?_)
    exact ih (b + 1) _ (by omega) H e (by omega)
theorem ty_fo_out {post : Int64 → Prop} {c o : Nat → Int32} {p : Nat → Nat} {n g : Nat} (hn : n ≤ 7) (hg : g < 2) (hO : tg_O n p o) (hp : ∀ i, i < n → p i < n) :
    ∀ d a r, a + d = n → post (tg_fo c p g d a r) → ∀ e, d < e → wY_row_5 post (nI g) (nI n) c o e r (nI a) := by
  intro d
  induction d with
  | zero =>
    intro a r hd H e he
    obtain ⟨e, rfl⟩ : ∃ k, e = k + 1 := ⟨e - 1, by omega⟩
    exact br_t (nI_le (by omega) (by omega)) H
  | succ d ih =>
    intro a r hd H e he
    obtain ⟨e, rfl⟩ : ∃ k, e = k + 1 := ⟨e - 1, by omega⟩
    refine br_f (nI_ge (by omega) (by omega)) ⟨a + 2, ?_⟩
    exact ty_fo_in hn hg hO hp (by omega) (a + 1) 0 r (by omega) (ih (a + 1) _ (by omega) H e (by omega)) (a + 2) (by omega)
theorem ty_fo {post : Int64 → Prop} {c o : Nat → Int32} {p : Nat → Nat} {n g : Nat} (hn : n ≤ 7) (hg : g < 2) (hO : tg_O n p o) (hp : ∀ i, i < n → p i < n) (H : post (tg_fo c p g n 0 0)) : wpY_row post (nI n, c, o) (nI g) :=
  ⟨n + 1, ty_fo_out hn hg hO hp n 0 0 (by omega) H (n + 1) (by omega)⟩
theorem tg_s1 {a b x : Nat} (h : x = a) : tg_sw (fun i => i) a b x = b := by
  show (if x = b then a else if x = a then b else x) = b
  by_cases e : x = b
  · rw [if_pos e]; omega
  · rw [if_neg e, if_pos h]
theorem tg_s2 {a b x : Nat} (h : x = b) : tg_sw (fun i => i) a b x = a := if_pos h
theorem tg_s3 {a b x : Nat} (h : x ≠ a) (h2 : x ≠ b) : tg_sw (fun i => i) a b x = x := by
  show (if x = b then a else if x = a then b else x) = x
  rw [if_neg h2, if_neg h]
def tg_DY (x y : Nat) : Nat → Nat → Prop := fun x' y' => x' < x ∨ (x' = x ∧ y' < y)
theorem ty_cs95 {post : Int32 → SY → Prop} {J28 J40 : Int32 → (Nat → Int32) → (Nat → Int32) → Prop} {N x2 x3 : Int32} {f o : Nat → Int32} {g x y u v : Nat} (hg : g < 2) (hx : x < 7) (hy : y < 7) (hu : u < 7) (hv : v < 7)
    (H : J40 (nI (y + 1)) (upd f (49 * g + 7 * x + y) (f (49 * (1 - g) + 7 * u + v))) o) : wY_copySwapped_95 post J28 J40 (nI g) x2 x3 (nI x) (nI y) (nI u) (nI v) N f o := by
  unfold wY_copySwapped_95
  rw [show 1 - nI g = nI (1 - g) from pk_sub (a := 1) (by omega), tg_plY, tg_plY, nI_clamp (by omega), nI_clamp (by omega)]
  exact ⟨vp_in_nI (by omega) (by omega), vp_in_nI (by omega) (by omega), nm_e (nm_r (nI_1 y) H)⟩
theorem ty_cs71 {post : Int32 → SY → Prop} {J28 J40 : Int32 → (Nat → Int32) → (Nat → Int32) → Prop} {N : Int32} {f o : Nat → Int32} {g a b x y u : Nat} (hg : g < 2) (ha : a < 7) (hb : b < 7) (hx : x < 7) (hy : y < 7) (hu : u < 7)
    (H : J40 (nI (y + 1)) (upd f (49 * g + 7 * x + y) (f (49 * (1 - g) + 7 * u + tg_sw (fun i => i) a b y))) o) : wY_copySwapped_71 post J28 J40 (nI g) (nI a) (nI b) (nI x) (nI y) (nI u) N f o := by
  refine pk_eq y a (fun z => ?_) (fun z => ?_) rfl rfl (by omega) (by omega)
  · rw [tg_s1 z] at H
    exact ty_cs95 hg hx hy hu hb H
  · refine pk_eq y b (fun w => ?_) (fun w => ?_) rfl rfl (by omega) (by omega)
    · rw [tg_s2 w] at H
      exact ty_cs95 hg hx hy hu ha H
    · rw [tg_s3 z w] at H
      exact ty_cs95 hg hx hy hu hy H
theorem ty_cs_in {post : Int32 → SY → Prop} {J : Int32 → (Nat → Int32) → (Nat → Int32) → Prop} {c o : Nat → Int32} {n g a b x : Nat} (hn : n ≤ 7) (hg : g < 2) (ha : a < n) (hb : b < n) (hx : x < n)
    (HJ : ∀ f, tg_CK c (tg_sw (fun i => i) a b) n g (tg_DY (x + 1) 0) f → J (nI (x + 1)) f o) :
    ∀ d y f, y + d = n → tg_CK c (tg_sw (fun i => i) a b) n g (tg_DY x y) f → ∀ e, d < e → wY_copySwapped_40 post J (nI g) (nI a) (nI b) (nI x) (nI n) e (nI y) f o := by
  intro d
  induction d with
  | zero =>
    intro y f hd H e he
    obtain ⟨e, rfl⟩ : ∃ k, e = k + 1 := ⟨e - 1, by omega⟩
    refine br_t (nI_le (by omega) (by omega)) (nm_r (nI_1 x) (HJ f (tg_CK_m H (fun x' y' hx' hy' z => ?_))))
    unfold tg_DY at z ⊢
    omega
  | succ d ih =>
    intro y f hd H e he
    obtain ⟨e, rfl⟩ : ∃ k, e = k + 1 := ⟨e - 1, by omega⟩
    have hs : ∀ i, i < n → tg_sw (fun i => i) a b i < n := tg_sw_lt (fun x hx => hx) ha hb
    have K := ih (y + 1) _ (by omega) (tg_CK_y (D' := tg_DY x (y + 1)) hn hg hs H hx (y := y) (by omega) (fun x' y' hx' hy' z => by unfold tg_DY at z ⊢; omega)) e (by omega)
    refine br_f (nI_ge (by omega) (by omega)) ?_
    refine pk_eq x a (fun z => ?_) (fun z => ?_) rfl rfl (by omega) (by omega)
    · rw [tg_s1 z] at K
      exact ty_cs71 hg (by omega) (by omega) (by omega) (by omega) (by omega) K
    · refine pk_eq x b (fun w => ?_) (fun w => ?_) rfl rfl (by omega) (by omega)
      · rw [tg_s2 w] at K
        exact ty_cs71 hg (by omega) (by omega) (by omega) (by omega) (by omega) K
      · rw [tg_s3 z w] at K
        exact ty_cs71 hg (by omega) (by omega) (by omega) (by omega) (by omega) K
theorem ty_cs_out {post : Int32 → SY → Prop} {c o : Nat → Int32} {n g a b : Nat} (hn : n ≤ 7) (hg : g < 2) (ha : a < n) (hb : b < n)
    (H : ∀ f, tg_CK c (tg_sw (fun i => i) a b) n g (tg_DY n 0) f → post 0 (nI n, f, o)) :
    ∀ d x f, x + d = n → tg_CK c (tg_sw (fun i => i) a b) n g (tg_DY x 0) f → ∀ e, d < e → wY_copySwapped_28 post (nI g) (nI a) (nI b) (nI n) e (nI x) f o := by
  intro d
  induction d with
  | zero =>
    intro x f hd hf e he
    obtain ⟨e, rfl⟩ : ∃ k, e = k + 1 := ⟨e - 1, by omega⟩
    have z : x = n := by omega
    rw [z] at hf
    exact br_t (nI_le (by omega) (by omega)) (H f hf)
  | succ d ih =>
    intro x f hd hf e he
    obtain ⟨e, rfl⟩ : ∃ k, e = k + 1 := ⟨e - 1, by omega⟩
    refine br_f (nI_ge (by omega) (by omega)) ⟨n + 1, ?_⟩
    exact ty_cs_in hn hg ha hb (by omega) (fun f' hf' => ih (x + 1) f' (by omega) hf' e (by omega)) n 0 f (by omega) hf (n + 1) (by omega)
theorem ty_cs {post : Int32 → SY → Prop} {c o : Nat → Int32} {n g a b : Nat} (hn : n ≤ 7) (hg : g < 2) (ha : a < n) (hb : b < n)
    (H : ∀ f, tg_CK c (tg_sw (fun i => i) a b) n g (tg_DY n 0) f → post 0 (nI n, f, o)) : wpY_copySwapped post (nI n, c, o) (nI g) (nI a) (nI b) := by
  unfold wpY_copySwapped
  dsimp only
  refine ty_gt hg (br_f tg_10 ?_)
  refine ty_pt hn ha (br_f tg_10 ?_)
  refine ty_pt hn hb (br_f tg_10 ?_)
  exact ⟨n + 1, ty_cs_out hn hg ha hb H n 0 c (by omega) (tg_CK_0 (fun x y z => by unfold tg_DY at z; omega)) (n + 1) (by omega)⟩
