section
/-! 01: pure rows: the orders of n points, the step from one to the next, one check by the kernel (pk_ rows: pasted from kit/rows) -/
theorem pk_us {f : Nat → Int32} {k : Nat} {x : Int32} : upd f k x k = x := if_pos rfl
theorem pk_un {f : Nat → Int32} {k j : Nat} {x : Int32} (h : j ≠ k) : upd f k x j = f j := if_neg h
theorem pk_sub {a b : Nat} (h : b ≤ a) : nI a - nI b = nI (a - b) := by
  obtain ⟨c, rfl⟩ : ∃ c, a = c + b := ⟨a - b, by omega⟩
  rw [← nI_add, Int32.add_sub_cancel, Nat.add_sub_cancel]
theorem pk_m1 (n : Nat) : nI (n + 1) + (-1) = nI n := by
  rw [← nI_1, Int32.add_assoc, show (1 : Int32) + (-1) = 0 from rfl, Int32.add_zero]
theorem pk_mul (a b : Nat) : nI a * nI b = nI (a * b) := (Int32.ofNat_mul a b).symm
theorem pk_ix (x : Int32) {n : Nat} (hn : n < 2 ^ 31) : x < 0 ∨ nI n ≤ x ∨ ∃ j : Nat, j < n ∧ x = nI j := by
  by_cases h : x < 0
  · exact Or.inl h
  · obtain ⟨j, hj, rfl⟩ := nI_of h
    by_cases h2 : j < n
    · exact Or.inr (Or.inr ⟨j, h2, rfl⟩)
    · exact Or.inr (Or.inl (nI_le (by omega) hj))
theorem pk_le {x y : Int32} {A B : Prop} (a b : Nat) (f : a ≤ b → A) (g : b < a → B) (hx : x = nI a := by rfl) (hy : y = nI b := by rfl) (ha : a < 2 ^ 31 := by omega) (hb : b < 2 ^ 31 := by omega) : (x ≤ y → A) ∧ (¬ x ≤ y → B) := by
  subst hx hy
  rw [nI_leI ha hb]
  exact ⟨f, fun z => g (by omega)⟩
theorem pk_lt {x y : Int32} {A B : Prop} (a b : Nat) (f : a < b → A) (g : b ≤ a → B) (hx : x = nI a := by rfl) (hy : y = nI b := by rfl) (ha : a < 2 ^ 31 := by omega) (hb : b < 2 ^ 31 := by omega) : (x < y → A) ∧ (¬ x < y → B) := by
  subst hx hy
  rw [nI_ltI ha hb]
  exact ⟨f, fun z => g (by omega)⟩
theorem pk_eq {x y : Int32} {A B : Prop} (a b : Nat) (f : a = b → A) (g : a ≠ b → B) (hx : x = nI a := by rfl) (hy : y = nI b := by rfl) (ha : a < 2 ^ 31 := by omega) (hb : b < 2 ^ 31 := by omega) : (x = y → A) ∧ (¬ x = y → B) := by
  subst hx hy
  rw [nI_eq ha hb]
  exact ⟨f, g⟩
theorem pk_in {x : Int32} (n N : Nat) (h : n < N) (hx : x = nI n := by rfl) (hN : N < 2 ^ 31 := by omega) : vp_in x N := by
  subst hx
  exact vp_in_nI h hN
theorem pk_cl {x : Int32} (n : Nat) (hx : x = nI n := by rfl) (h : n < 2 ^ 31 := by omega) : x.toNatClampNeg = n := by
  subst hx
  exact nI_clamp h
/-- n! -/
def tg_fac : Nat → Nat
  | 0 => 1
  | n + 1 => (n + 1) * tg_fac n
def tg_at : List Nat → Nat → Nat
  | [], _ => 0
  | x :: _, 0 => x
  | _ :: l, i + 1 => tg_at l i
def tg_del : List Nat → Nat → List Nat
  | [], _ => []
  | _ :: l, 0 => l
  | x :: l, i + 1 => x :: tg_del l i
def tg_up : Nat → Nat → List Nat
  | 0, _ => []
  | d + 1, i => i :: tg_up d (i + 1)
def tg_unl : Nat → List Nat → Nat → List Nat
  | 0, _, _ => []
  | m + 1, l, k => tg_at l (k / tg_fac m) :: tg_unl m (tg_del l (k / tg_fac m)) (k % tg_fac m)
/-- the k-th order of n points, the least first -/
def tg_un (n k : Nat) : Nat → Nat := fun i => tg_at (tg_unl n (tg_up n 0) k) i
/-- the last rise among the first i + 1 places, plus 1; 0: none -/
def tg_rise (p : Nat → Nat) : Nat → Nat
  | 0 => 0
  | i + 1 => if p i < p (i + 1) then i + 1 else tg_rise p i
def tg_riseY (p : Nat → Nat) : Nat → Nat
  | 0 => 0
  | i + 1 => if p (i + 1) < p i then tg_riseY p i else i + 1
def tg_jX (p : Nat → Nat) (r : Nat) : Nat → Nat → Nat → Nat
  | 0, _, nx => nx
  | d + 1, i, nx => if p r < p i then tg_jX p r d (i + 1) i else tg_jX p r d (i + 1) nx
def tg_jY (p : Nat → Nat) (i : Nat) : Nat → Nat
  | 0 => i
  | d + 1 => if p (i + (d + 1)) < p i then tg_jY p i d else i + (d + 1)
def tg_sw (p : Nat → Nat) (i j : Nat) : Nat → Nat := fun x => if x = j then p i else if x = i then p j else p x
def tg_rev : Nat → (Nat → Nat) → Nat → Nat → Nat → Nat
  | 0, p, _, _ => p
  | d + 1, p, lo, hi => if lo < hi then tg_rev d (tg_sw p lo hi) (lo + 1) (hi - 1) else p
/-- the order behind p, whose last rise is at r - 1 -/
def tg_nx (n : Nat) (p : Nat → Nat) (r : Nat) : Nat → Nat := tg_rev 4 (tg_sw p (r - 1) (tg_jY p (r - 1) (n - r))) r (n - 1)
def tg_allB (f : Nat → Bool) : Nat → Bool
  | 0 => true
  | n + 1 => f n && tg_allB f n
theorem tg_allB_of {f : Nat → Bool} : ∀ n, tg_allB f n = true → ∀ i, i < n → f i = true := by
  intro n
  induction n with
  | zero => intro _ i hi; omega
  | succ n ih =>
    intro h i hi
    rw [tg_allB, Bool.and_eq_true] at h
    by_cases e : i = n
    · rw [e]; exact h.1
    · exact ih h.2 i (by omega)
def tg_ok (n F k : Nat) : Bool :=
  tg_allB (fun i => decide (tg_un n k i < n)) n &&
  (decide (tg_riseY (tg_un n k) (n - 1) = tg_rise (tg_un n k) (n - 1)) &&
  (if k + 1 < F then
    decide (0 < tg_rise (tg_un n k) (n - 1)) &&
    (decide (tg_jY (tg_un n k) (tg_rise (tg_un n k) (n - 1) - 1) (n - tg_rise (tg_un n k) (n - 1)) = tg_jX (tg_un n k) (tg_rise (tg_un n k) (n - 1) - 1) (n - tg_rise (tg_un n k) (n - 1) - 1) (tg_rise (tg_un n k) (n - 1) + 1) (tg_rise (tg_un n k) (n - 1))) &&
    tg_allB (fun i => decide (tg_nx n (tg_un n k) (tg_rise (tg_un n k) (n - 1)) i = tg_un n (k + 1) i)) n)
  else decide (tg_rise (tg_un n k) (n - 1) = 0)))
def tg_chk (n F : Nat) : Nat → Nat → Bool
  | 0, _ => true
  | d + 1, k => tg_ok n F k && tg_chk n F d (k + 1)
theorem tg_chk_ok {n F : Nat} : ∀ d k, tg_chk n F d k = true → ∀ j, k ≤ j → j < k + d → tg_ok n F j = true := by
  intro d
  induction d with
  | zero => intro k _ j h1 h2; omega
  | succ d ih =>
    intro k h j h1 h2
    rw [tg_chk, Bool.and_eq_true] at h
    by_cases e : j = k
    · rw [e]; exact h.1
    · exact ih (k + 1) h.2 j (by omega) (by omega)
theorem tg_k1 : tg_chk 1 1 1 0 = true := by decide +kernel
theorem tg_k2 : tg_chk 2 2 2 0 = true := by decide +kernel
theorem tg_k3 : tg_chk 3 6 6 0 = true := by decide +kernel
theorem tg_k4 : tg_chk 4 24 24 0 = true := by decide +kernel
theorem tg_k5 : tg_chk 5 120 120 0 = true := by decide +kernel
theorem tg_k6 : tg_chk 6 720 720 0 = true := by decide +kernel
theorem tg_k7_0 : tg_chk 7 5040 504 0 = true := by decide +kernel
theorem tg_k7_1 : tg_chk 7 5040 504 504 = true := by decide +kernel
theorem tg_k7_2 : tg_chk 7 5040 504 1008 = true := by decide +kernel
theorem tg_k7_3 : tg_chk 7 5040 504 1512 = true := by decide +kernel
theorem tg_k7_4 : tg_chk 7 5040 504 2016 = true := by decide +kernel
theorem tg_k7_5 : tg_chk 7 5040 504 2520 = true := by decide +kernel
theorem tg_k7_6 : tg_chk 7 5040 504 3024 = true := by decide +kernel
theorem tg_k7_7 : tg_chk 7 5040 504 3528 = true := by decide +kernel
theorem tg_k7_8 : tg_chk 7 5040 504 4032 = true := by decide +kernel
theorem tg_k7_9 : tg_chk 7 5040 504 4536 = true := by decide +kernel
theorem tg_oks {n k : Nat} (h1 : 1 ≤ n) (h7 : n ≤ 7) (hk : k < tg_fac n) : tg_ok n (tg_fac n) k = true := by
  have e : n = 1 ∨ n = 2 ∨ n = 3 ∨ n = 4 ∨ n = 5 ∨ n = 6 ∨ n = 7 := by omega
  rcases e with rfl | rfl | rfl | rfl | rfl | rfl | rfl
  · have f : tg_fac 1 = 1 := by decide
    rw [f] at hk ⊢
    exact tg_chk_ok 1 0 tg_k1 k (Nat.zero_le k) (by omega)
  · have f : tg_fac 2 = 2 := by decide
    rw [f] at hk ⊢
    exact tg_chk_ok 2 0 tg_k2 k (Nat.zero_le k) (by omega)
  · have f : tg_fac 3 = 6 := by decide
    rw [f] at hk ⊢
    exact tg_chk_ok 6 0 tg_k3 k (Nat.zero_le k) (by omega)
  · have f : tg_fac 4 = 24 := by decide
    rw [f] at hk ⊢
    exact tg_chk_ok 24 0 tg_k4 k (Nat.zero_le k) (by omega)
  · have f : tg_fac 5 = 120 := by decide
    rw [f] at hk ⊢
    exact tg_chk_ok 120 0 tg_k5 k (Nat.zero_le k) (by omega)
  · have f : tg_fac 6 = 720 := by decide
    rw [f] at hk ⊢
    exact tg_chk_ok 720 0 tg_k6 k (Nat.zero_le k) (by omega)
  · have f : tg_fac 7 = 5040 := by decide
    rw [f] at hk ⊢
    by_cases z0 : k < 504
    · exact tg_chk_ok 504 0 tg_k7_0 k (by omega) (by omega)
    by_cases z1 : k < 1008
    · exact tg_chk_ok 504 504 tg_k7_1 k (by omega) (by omega)
    by_cases z2 : k < 1512
    · exact tg_chk_ok 504 1008 tg_k7_2 k (by omega) (by omega)
    by_cases z3 : k < 2016
    · exact tg_chk_ok 504 1512 tg_k7_3 k (by omega) (by omega)
    by_cases z4 : k < 2520
    · exact tg_chk_ok 504 2016 tg_k7_4 k (by omega) (by omega)
    by_cases z5 : k < 3024
    · exact tg_chk_ok 504 2520 tg_k7_5 k (by omega) (by omega)
    by_cases z6 : k < 3528
    · exact tg_chk_ok 504 3024 tg_k7_6 k (by omega) (by omega)
    by_cases z7 : k < 4032
    · exact tg_chk_ok 504 3528 tg_k7_7 k (by omega) (by omega)
    by_cases z8 : k < 4536
    · exact tg_chk_ok 504 4032 tg_k7_8 k (by omega) (by omega)
    exact tg_chk_ok 504 4536 tg_k7_9 k (by omega) (by omega)
theorem tg_fact {n k F : Nat} (h : tg_ok n F k = true) :
    (∀ i, i < n → tg_un n k i < n) ∧ tg_riseY (tg_un n k) (n - 1) = tg_rise (tg_un n k) (n - 1) ∧
    (k + 1 < F → 0 < tg_rise (tg_un n k) (n - 1) ∧
      tg_jY (tg_un n k) (tg_rise (tg_un n k) (n - 1) - 1) (n - tg_rise (tg_un n k) (n - 1)) = tg_jX (tg_un n k) (tg_rise (tg_un n k) (n - 1) - 1) (n - tg_rise (tg_un n k) (n - 1) - 1) (tg_rise (tg_un n k) (n - 1) + 1) (tg_rise (tg_un n k) (n - 1)) ∧
      ∀ i, i < n → tg_nx n (tg_un n k) (tg_rise (tg_un n k) (n - 1)) i = tg_un n (k + 1) i) ∧
    (¬ k + 1 < F → tg_rise (tg_un n k) (n - 1) = 0) := by
  unfold tg_ok at h
  rw [Bool.and_eq_true, Bool.and_eq_true] at h
  obtain ⟨h1, h2, h3⟩ := h
  refine ⟨fun i hi => of_decide_eq_true (tg_allB_of n h1 i hi), of_decide_eq_true h2, fun hk => ?_, fun hk => ?_⟩
  · rw [if_pos hk, Bool.and_eq_true, Bool.and_eq_true] at h3
    exact ⟨of_decide_eq_true h3.1, of_decide_eq_true h3.2.1, fun i hi => of_decide_eq_true (tg_allB_of n h3.2.2 i hi)⟩
  · rw [if_neg hk] at h3
    exact of_decide_eq_true h3
theorem tg_un0 : ∀ n, n < 8 → ∀ i, i < n → tg_un n 0 i = i := by decide +kernel
theorem tg_fac_in : ∀ n, n < 8 → 1 ≤ tg_fac n ∧ tg_fac n ≤ 5040 := by decide +kernel
theorem tg_rise_le (p : Nat → Nat) : ∀ m, tg_rise p m ≤ m := by
  intro m
  induction m with
  | zero => exact Nat.le_refl 0
  | succ m ih =>
    rw [tg_rise]
    by_cases h : p m < p (m + 1)
    · rw [if_pos h]; exact Nat.le_refl _
    · rw [if_neg h]; omega
theorem tg_jY_in (p : Nat → Nat) (i : Nat) : ∀ d, i ≤ tg_jY p i d ∧ tg_jY p i d ≤ i + d := by
  intro d
  induction d with
  | zero => exact ⟨Nat.le_refl i, Nat.le_refl i⟩
  | succ d ih =>
    rw [tg_jY]
    by_cases h : p (i + (d + 1)) < p i
    · rw [if_pos h]; omega
    · rw [if_neg h]; omega
/-- the array o holds the order p on its first n places -/
def tg_O (n : Nat) (p : Nat → Nat) (o : Nat → Int32) : Prop := ∀ i, i < n → o i = nI (p i)
theorem tg_O_e {n : Nat} {p q : Nat → Nat} {o : Nat → Int32} (h : tg_O n p o) (e : ∀ i, i < n → p i = q i) : tg_O n q o :=
  fun i hi => by rw [h i hi, e i hi]
theorem tg_O_sw {n : Nat} {p : Nat → Nat} {o : Nat → Int32} {i j : Nat} (h : tg_O n p o) (hi : i < n) (hj : j < n) : tg_O n (tg_sw p i j) (upd (upd o i (o j)) j (o i)) := by
  intro x hx
  show (if x = j then o i else (if x = i then o j else o x)) = nI (if x = j then p i else if x = i then p j else p x)
  by_cases e : x = j
  · rw [if_pos e, if_pos e]; exact h i hi
  · rw [if_neg e, if_neg e]
    by_cases e2 : x = i
    · rw [if_pos e2, if_pos e2]; exact h j hj
    · rw [if_neg e2, if_neg e2]; exact h x hx
theorem tg_sw_lt {n : Nat} {p : Nat → Nat} {i j : Nat} (h : ∀ x, x < n → p x < n) (hi : i < n) (hj : j < n) : ∀ x, x < n → tg_sw p i j x < n := by
  intro x hx
  show (if x = j then p i else if x = i then p j else p x) < n
  by_cases e : x = j
  · rw [if_pos e]; exact h i hi
  · rw [if_neg e]
    by_cases e2 : x = i
    · rw [if_pos e2]; exact h j hj
    · rw [if_neg e2]; exact h x hx
theorem tg_pl (g a b : Nat) : nI g * 49 + nI a * 7 + nI b = nI (49 * g + 7 * a + b) := by
  show nI g * nI 49 + nI a * nI 7 + nI b = _
  rw [pk_mul, pk_mul, nI_add, nI_add, Nat.mul_comm g 49, Nat.mul_comm a 7]
theorem tg_plY (g a b : Nat) : 49 * nI g + 7 * nI a + nI b = nI (49 * g + 7 * a + b) := by
  show nI 49 * nI g + nI 7 * nI a + nI b = _
  rw [pk_mul, pk_mul, nI_add, nI_add]
/-- the pairs of the first n points: graph g under the order p of graph h -/
def tg_LY (c : Nat → Int32) (p : Nat → Nat) (n g h : Nat) : Prop := ∀ a, a < n → ∀ b, b ≤ a → c (49 * g + 7 * a + b) = c (49 * h + 7 * p a + p b)
def tg_fi (c : Nat → Int32) (p : Nat → Nat) (g a : Nat) : Nat → Nat → Int64 → Int64
  | 0, _, r => r
  | d + 1, b, r => tg_fi c p g a d (b + 1) (r * 4 + (c (49 * g + 7 * p a + p b)).toInt64)
def tg_fo (c : Nat → Int32) (p : Nat → Nat) (g : Nat) : Nat → Nat → Int64 → Int64
  | 0, _, r => r
  | d + 1, a, r => tg_fo c p g d (a + 1) (tg_fi c p g a (a + 1) 0 r)
theorem tg_i2 (m : Nat) : nI (m + 1) - 2 = nI m + (-1) := by
  rw [← nI_1]; grind
theorem tg_m1 : nI 0 + (-1) = -1 := by decide
theorem tg_i1 (m : Nat) : nI (m + 1) - 1 = nI m := nI_pred m
theorem tg_neg : (-1 : Int32) < 0 := by decide
theorem tg_pt (a : Int32) {n : Nat} (hn : n < 2 ^ 31) : (∃ j, j < n ∧ a = nI j) ∨ (a < 0 ∨ (¬ a < 0 ∧ ¬ a < nI n)) := by
  by_cases h : a < 0
  · exact Or.inr (Or.inl h)
  · obtain ⟨j, hj, rfl⟩ := nI_of h
    by_cases h2 : j < n
    · exact Or.inl ⟨j, h2, rfl⟩
    · exact Or.inr (Or.inr ⟨h, nI_nlt (by omega) hj⟩)
theorem tg_gr (g : Int32) : (∃ j, j < 2 ∧ g = nI j) ∨ (¬ g = 0 ∧ ¬ g = 1) := by
  by_cases h : g = 0
  · exact Or.inl ⟨0, by omega, h⟩
  · by_cases h1 : g = 1
    · exact Or.inl ⟨1, by omega, h1⟩
    · exact Or.inr ⟨h, h1⟩
/-! the colours as a table: both places of a pair hold one colour; the copy with two points changed -/
def tg_Sy (n : Nat) (c : Nat → Int32) : Prop := ∀ G x y, G < 2 → x < n → y < n → c (49 * G + 7 * x + y) = c (49 * G + 7 * y + x)
theorem tg_Sy_p {n g a b : Nat} {c : Nat → Int32} {v : Int32} (hn : n ≤ 7) (h : tg_Sy n c) (ha : a < n) (hb : b < n) :
    tg_Sy n (upd (upd c (49 * g + 7 * a + b) v) (49 * g + 7 * b + a) v) := by
  intro G x y hG hx hy
  have E : ∀ q, upd (upd c (49 * g + 7 * a + b) v) (49 * g + 7 * b + a) v q = if q = 49 * g + 7 * b + a then v else if q = 49 * g + 7 * a + b then v else c q := fun q => rfl
  rw [E, E]
  by_cases e1 : 49 * G + 7 * x + y = 49 * g + 7 * b + a
  · have e2 : 49 * G + 7 * y + x = 49 * g + 7 * a + b := by omega
    by_cases e3 : 49 * G + 7 * y + x = 49 * g + 7 * b + a
    · rw [if_pos e1, if_pos e3]
    · rw [if_pos e1, if_neg e3, if_pos e2]
  · rw [if_neg e1]
    by_cases e4 : 49 * G + 7 * x + y = 49 * g + 7 * a + b
    · have e5 : 49 * G + 7 * y + x = 49 * g + 7 * b + a := by omega
      rw [if_pos e4, if_pos e5]
    · have e5 : ¬ 49 * G + 7 * y + x = 49 * g + 7 * b + a := by omega
      have e6 : ¬ 49 * G + 7 * y + x = 49 * g + 7 * a + b := by omega
      rw [if_neg e4, if_neg e5, if_neg e6]
      exact h G x y hG hx hy
/-- the copy, done at the pairs that D names -/
def tg_CK (c : Nat → Int32) (s : Nat → Nat) (n g : Nat) (D : Nat → Nat → Prop) (f : Nat → Int32) : Prop :=
  (∀ q, (∀ x y, x < n → y < n → q ≠ 49 * g + 7 * x + y) → f q = c q) ∧
  (∀ x y, x < n → y < n → D x y → f (49 * g + 7 * x + y) = c (49 * (1 - g) + 7 * s x + s y))
theorem tg_CK_0 {c : Nat → Int32} {s : Nat → Nat} {n g : Nat} {D : Nat → Nat → Prop} (h : ∀ x y, ¬ D x y) : tg_CK c s n g D c :=
  ⟨fun _ _ => rfl, fun x y _ _ z => absurd z (h x y)⟩
theorem tg_CK_m {c f : Nat → Int32} {s : Nat → Nat} {n g : Nat} {D D' : Nat → Nat → Prop} (h : tg_CK c s n g D f) (k : ∀ x y, x < n → y < n → D' x y → D x y) : tg_CK c s n g D' f :=
  ⟨h.1, fun x y hx hy z => h.2 x y hx hy (k x y hx hy z)⟩
theorem tg_CK_r {c f : Nat → Int32} {s : Nat → Nat} {n g x y : Nat} {D : Nat → Nat → Prop} (hn : n ≤ 7) (hg : g < 2) (hs : ∀ z, z < n → s z < n) (h : tg_CK c s n g D f) (hx : x < n) (hy : y < n) :
    f (49 * (1 - g) + 7 * s x + s y) = c (49 * (1 - g) + 7 * s x + s y) := by
  refine h.1 _ (fun x2 y2 h2 h3 => ?_)
  have a1 := hs x hx
  have a2 := hs y hy
  omega
theorem tg_CK_x {c f : Nat → Int32} {s : Nat → Nat} {n g x y : Nat} {D D' : Nat → Nat → Prop} (hn : n ≤ 7) (hg : g < 2) (hs : ∀ z, z < n → s z < n) (hc : tg_Sy n c) (h : tg_CK c s n g D f) (hx : x < n) (hy : y < n)
    (k : ∀ x' y', x' < n → y' < n → D' x' y' → D x' y' ∨ (x' = x ∧ y' = y) ∨ (x' = y ∧ y' = x)) :
    tg_CK c s n g D' (upd (upd f (49 * g + 7 * x + y) (f (49 * (1 - g) + 7 * s x + s y))) (49 * g + 7 * y + x) (f (49 * (1 - g) + 7 * s x + s y))) := by
  have hv := tg_CK_r hn hg hs h hx hy
  have E : ∀ q v, upd (upd f (49 * g + 7 * x + y) v) (49 * g + 7 * y + x) v q = if q = 49 * g + 7 * y + x then v else if q = 49 * g + 7 * x + y then v else f q := fun q v => rfl
  constructor
  · intro q hq
    rw [E, if_neg (hq y x hy hx), if_neg (hq x y hx hy)]
    exact h.1 q hq
  · intro x' y' hx' hy' hD
    rw [E, hv]
    by_cases e1 : 49 * g + 7 * x' + y' = 49 * g + 7 * y + x
    · have a1 : x' = y := by omega
      have a2 : y' = x := by omega
      rw [if_pos e1, a1, a2]
      exact hc (1 - g) (s x) (s y) (by omega) (hs x hx) (hs y hy)
    · rw [if_neg e1]
      by_cases e2 : 49 * g + 7 * x' + y' = 49 * g + 7 * x + y
      · have a1 : x' = x := by omega
        have a2 : y' = y := by omega
        rw [if_pos e2, a1, a2]
      · rw [if_neg e2]
        rcases k x' y' hx' hy' hD with z | ⟨z1, z2⟩ | ⟨z1, z2⟩
        · exact h.2 x' y' hx' hy' z
        · exact absurd (by rw [z1, z2]) e2
        · exact absurd (by rw [z1, z2]) e1
theorem tg_CK_y {c f : Nat → Int32} {s : Nat → Nat} {n g x y : Nat} {D D' : Nat → Nat → Prop} (hn : n ≤ 7) (hg : g < 2) (hs : ∀ z, z < n → s z < n) (h : tg_CK c s n g D f) (hx : x < n) (hy : y < n)
    (k : ∀ x' y', x' < n → y' < n → D' x' y' → D x' y' ∨ (x' = x ∧ y' = y)) :
    tg_CK c s n g D' (upd f (49 * g + 7 * x + y) (f (49 * (1 - g) + 7 * s x + s y))) := by
  have hv := tg_CK_r hn hg hs h hx hy
  have E : ∀ q v, upd f (49 * g + 7 * x + y) v q = if q = 49 * g + 7 * x + y then v else f q := fun q v => rfl
  constructor
  · intro q hq
    rw [E, if_neg (hq x y hx hy)]
    exact h.1 q hq
  · intro x' y' hx' hy' hD
    rw [E, hv]
    by_cases e2 : 49 * g + 7 * x' + y' = 49 * g + 7 * x + y
    · have a1 : x' = x := by omega
      have a2 : y' = y := by omega
      rw [if_pos e2, a1, a2]
    · rw [if_neg e2]
      rcases k x' y' hx' hy' hD with z | ⟨z1, z2⟩
      · exact h.2 x' y' hx' hy' z
      · exact absurd (by rw [z1, z2]) e2
theorem tg_CK_eq {c f f' : Nat → Int32} {s : Nat → Nat} {n g : Nat} {D D' : Nat → Nat → Prop} (h : tg_CK c s n g D f) (h' : tg_CK c s n g D' f') (a : ∀ x y, x < n → y < n → D x y) (a' : ∀ x y, x < n → y < n → D' x y) : f = f' := by
  funext q
  by_cases e : ∃ x y, x < n ∧ y < n ∧ q = 49 * g + 7 * x + y
  · obtain ⟨x, y, hx, hy, rfl⟩ := e
    rw [h.2 x y hx hy (a x y hx hy), h'.2 x y hx hy (a' x y hx hy)]
  · have z : ∀ x y, x < n → y < n → q ≠ 49 * g + 7 * x + y := fun x y hx hy w => e ⟨x, y, hx, hy, w⟩
    rw [h.1 q z, h'.1 q z]
theorem tg_CK_s {c f : Nat → Int32} {s : Nat → Nat} {n g : Nat} {D : Nat → Nat → Prop} (hn : n ≤ 7) (hs : ∀ z, z < n → s z < n) (hc : tg_Sy n c) (h : tg_CK c s n g D f) (a : ∀ x y, x < n → y < n → D x y) : tg_Sy n f := by
  intro G x y hG hx hy
  by_cases e : G = g
  · subst e
    rw [h.2 x y hx hy (a x y hx hy), h.2 y x hy hx (a y x hy hx)]
    exact hc (1 - G) (s x) (s y) (by omega) (hs x hx) (hs y hy)
  · rw [h.1 _ (fun x2 y2 h2 h3 => by omega), h.1 _ (fun x2 y2 h2 h3 => by omega)]
    exact hc G x y hG hx hy
end
section
/-! 02: the class's own small walks -/
theorem tg_10 : ¬ (1 : Int32) = 0 := by decide
def tg_pr : Nat → Nat → Nat → Nat
  | 0, _, q => q
  | d + 1, f, q => tg_pr d (f + 1) (q * f)
theorem tg_prf : ∀ n, n < 8 → 1 ≤ n → tg_pr (n - 1) 2 1 = tg_fac n := by decide +kernel
theorem tx_fac_l {post : Int32 → Prop} {n : Nat} (hn : n ≤ 7) : ∀ d f q, f + d = n + 1 → post (nI (tg_pr d f q)) → ∀ e, d < e → wX_factorial_4 post (nI n) e (nI q) (nI f) := by
  intro d
  induction d with
  | zero =>
    intro f q hf H e he
    obtain ⟨e, rfl⟩ : ∃ k, e = k + 1 := ⟨e - 1, by omega⟩
    exact br_t (nI_lt (by omega) (by omega)) H
  | succ d ih =>
    intro f q hf H e he
    obtain ⟨e, rfl⟩ : ∃ k, e = k + 1 := ⟨e - 1, by omega⟩
    exact br_f (nI_nlt (by omega) (by omega)) (nm_r (pk_mul q f) (nm_r (nI_1 f) (ih (f + 1) (q * f) (by omega) H e (by omega))))
theorem tx_fac {post : Int32 → Prop} {n : Nat} (h1 : 1 ≤ n) (h7 : n ≤ 7) (H : post (nI (tg_fac n))) : wpX_factorial post (nI n) :=
  ⟨n + 1, tx_fac_l h7 (n - 1) 2 1 (by omega) (by rw [tg_prf n (by omega) h1]; exact H) (n + 1) (by omega)⟩
theorem tx_gt {post : Int32 → Prop} {g : Nat} (hg : g < 2) (H : post 1) : wpX_isGraph post (nI g) := by
  rcases (by omega : g = 0 ∨ g = 1) with rfl | rfl
  · exact br_t (by decide) H
  · exact br_f (by decide) (br_t (by decide) H)
theorem tx_gf {post : Int32 → Prop} {g : Int32} (h : ¬ g = 0 ∧ ¬ g = 1) (H : post 0) : wpX_isGraph post g := br_f h.1 (br_f h.2 H)
theorem tx_pt {post : Int32 → Prop} {F : Int32} {c o : Nat → Int32} {n a : Nat} (hn : n ≤ 7) (ha : a < n) (H : post 1) : wpX_isPoint post (nI n, F, c, o) (nI a) :=
  br_f (nI_pos (by omega)) (br_f (nI_ge ha (by omega)) H)
theorem tx_pf {post : Int32 → Prop} {F : Int32} {c o : Nat → Int32} {n : Nat} {a : Int32} (h : a < 0 ∨ (¬ a < 0 ∧ ¬ a < nI n)) (H : post 0) : wpX_isPoint post (nI n, F, c, o) a := by
  rcases h with h | ⟨h1, h2⟩
  · exact br_t h H
  · exact br_f h1 (br_t (Int32.not_lt.mp h2) H)
theorem tx_pl {post : Int32 → Prop} {x y z : Int32} (g a b : Nat) (hx : x = nI g) (hy : y = nI a) (hz : z = nI b) (H : post (nI (49 * g + 7 * a + b))) : wpX_place post x y z := by
  subst hx hy hz
  unfold wpX_place
  rw [tg_pl]
  exact H
theorem tx_set {post : SX → Prop} {F : Int32} {c o : Nat → Int32} {n g a b : Nat} {v : Int32} (hn : n ≤ 7) (hg : g < 2) (ha : a < n) (hb : b < n)
    (H : post (nI n, F, upd (upd c (49 * g + 7 * a + b) v) (49 * g + 7 * b + a) v, o)) : wpX_setColour post (nI n, F, c, o) (nI g) (nI a) (nI b) v := by
  unfold wpX_setColour
  dsimp only
  refine tx_pl g a b rfl rfl rfl ?_
  refine ⟨vp_in_nI (by omega) (by omega), nm_r (by rw [nI_clamp (by omega)]) ?_⟩
  refine tx_pl g b a rfl rfl rfl ?_
  exact ⟨vp_in_nI (by omega) (by omega), nm_r (by rw [nI_clamp (by omega)]) H⟩
theorem tx_sw {post : SX → Prop} {F : Int32} {c o : Nat → Int32} {p : Nat → Nat} {n i j : Nat} (hn : n ≤ 7) (hO : tg_O n p o) (hi : i < n) (hj : j < n)
    (H : ∀ o', tg_O n (tg_sw p i j) o' → post (nI n, F, c, o')) : wpX_swapInOrder post (nI n, F, c, o) (nI i) (nI j) := by
  have vi : vp_in (nI i) 7 := vp_in_nI (by omega) (by omega)
  have vj : vp_in (nI j) 7 := vp_in_nI (by omega) (by omega)
  refine ⟨vi, nm_e ⟨vj, vi, nm_e ⟨vj, nm_e (H _ ?_)⟩⟩⟩
  rw [nI_clamp (n := i) (by omega), nI_clamp (n := j) (by omega)]
  exact tg_O_sw hO hi hj
theorem tx_st_l {post : SX → Prop} {F : Int32} {c : Nat → Int32} {n : Nat} (hn : n ≤ 7) (H : ∀ o', tg_O n (fun i => i) o' → post (nI n, F, c, o')) :
    ∀ d i o, i + d = n → (∀ j, j < i → o j = nI j) → ∀ e, d < e → wX_startOrders_2 post (nI n) F e (nI i) c o := by
  intro d
  induction d with
  | zero =>
    intro i o hi ho e he
    obtain ⟨e, rfl⟩ : ∃ k, e = k + 1 := ⟨e - 1, by omega⟩
    exact br_t (nI_le (by omega) (by omega)) (H o (fun j hj => ho j (by omega)))
  | succ d ih =>
    intro i o hi ho e he
    obtain ⟨e, rfl⟩ : ∃ k, e = k + 1 := ⟨e - 1, by omega⟩
    refine br_f (nI_ge (by omega) (by omega)) ⟨vp_in_nI (by omega) (by omega), nm_r (by rw [nI_clamp (by omega)]) (nm_r (nI_1 i) ?_)⟩
    refine ih (i + 1) _ (by omega) (fun j hj => ?_) e (by omega)
    by_cases z : j = i
    · rw [z, pk_us]
    · rw [pk_un z]; exact ho j (by omega)
theorem tx_st {post : SX → Prop} {F : Int32} {c o : Nat → Int32} {n : Nat} (h1 : 1 ≤ n) (hn : n ≤ 7) (H : ∀ o', tg_O n (tg_un n 0) o' → post (nI n, F, c, o')) : wpX_startOrders post (nI n, F, c, o) :=
  ⟨n + 1, tx_st_l hn (fun o' h' => H o' (tg_O_e h' (fun i hi => (tg_un0 n (by omega) i hi).symm))) n 0 o (by omega) (fun j hj => absurd hj (by omega)) (n + 1) (by omega)⟩
theorem tx_sti {post : SX → Prop} {F : Int32} {c o : Nat → Int32} {n : Nat} (hn : n ≤ 7) (H : ∀ o', tg_O n (fun i => i) o' → post (nI n, F, c, o')) : wpX_startOrders post (nI n, F, c, o) :=
  ⟨n + 1, tx_st_l hn H n 0 o (by omega) (fun j hj => absurd hj (by omega)) (n + 1) (by omega)⟩
/-! the step to the next order -/
theorem tx_lr_l {post : Int32 → Prop} {F : Int32} {c o : Nat → Int32} {p : Nat → Nat} {n : Nat} (hn : n ≤ 7) (hO : tg_O n p o) (hp : ∀ i, i < n → p i < n) :
    ∀ m, m + 1 ≤ n → post (nI (tg_rise p m) + (-1)) → ∀ e, m < e → wX_lastRise_7 post (nI n) F c o e (nI m + (-1)) := by
  intro m
  induction m with
  | zero =>
    intro hm H e he
    obtain ⟨e, rfl⟩ : ∃ k, e = k + 1 := ⟨e - 1, by omega⟩
    have H2 : post (nI 0 + (-1)) := H
    rw [tg_m1] at H2 ⊢
    exact br_t tg_neg H2
  | succ m ih =>
    intro hm H e he
    obtain ⟨e, rfl⟩ : ∃ k, e = k + 1 := ⟨e - 1, by omega⟩
    have p1 := hp m (by omega)
    have p2 := hp (m + 1) (by omega)
    have e1 : o (nI m).toNatClampNeg = nI (p m) := by rw [nI_clamp (by omega)]; exact hO m (by omega)
    have e2 : o (nI m + 1).toNatClampNeg = nI (p (m + 1)) := by rw [nI_1, nI_clamp (by omega)]; exact hO (m + 1) (by omega)
    rw [pk_m1]
    refine br_f (nI_pos (by omega)) ⟨vp_in_nI (by omega) (by omega), by rw [nI_1]; exact vp_in_nI (by omega) (by omega), ?_⟩
    by_cases z : p m < p (m + 1)
    · refine br_f (by rw [e1, e2]; exact nI_ge z (by omega)) ?_
      rw [tg_rise, if_pos z, pk_m1] at H
      exact H
    · refine br_t (by rw [e1, e2]; exact nI_le (by omega) (by omega)) (nm_e ?_)
      rw [tg_rise, if_neg z] at H
      exact ih (by omega) H e (by omega)
theorem tx_rev {post : SX → Prop} {F : Int32} {c : Nat → Int32} {n : Nat} (hn : n ≤ 7) :
    ∀ d p o lo hi, tg_O n p o → lo ≤ n → hi < n → hi ≤ lo + 2 * d → (∀ o', tg_O n (tg_rev d p lo hi) o' → post (nI n, F, c, o')) → ∀ e, d < e → wX_nextOrder_67 post e (nI lo) (nI hi) (nI n) F c o := by
  intro d
  induction d with
  | zero =>
    intro p o lo hi hO hl hh hd H e he
    obtain ⟨e, rfl⟩ : ∃ k, e = k + 1 := ⟨e - 1, by omega⟩
    exact br_t (nI_le (by omega) (by omega)) (H o hO)
  | succ d ih =>
    intro p o lo hi hO hl hh hd H e he
    obtain ⟨e, rfl⟩ : ∃ k, e = k + 1 := ⟨e - 1, by omega⟩
    by_cases z : lo < hi
    · rw [tg_rev, if_pos z] at H
      refine br_f (nI_ge z (by omega)) ?_
      refine tx_sw hn hO (by omega) hh (fun o' hO' => ?_)
      obtain ⟨hi, rfl⟩ : ∃ k, hi = k + 1 := ⟨hi - 1, by omega⟩
      refine nm_r (nI_1 lo) (nm_r (pk_m1 hi) ?_)
      exact ih _ o' (lo + 1) hi hO' (by omega) (by omega) (by omega) H e (by omega)
    · rw [tg_rev, if_neg z] at H
      exact br_t (nI_le (by omega) (by omega)) (H o hO)
theorem tx_jx {post : SX → Prop} {F : Int32} {c o : Nat → Int32} {p : Nat → Nat} {n r : Nat} (hn : n ≤ 7) (hO : tg_O n p o) (hp : ∀ i, i < n → p i < n) (hr : r < n) :
    ∀ d i nx, i + d = n → (∀ e, 0 < e → wX_nextOrder_18 post (nI r) (nI n) F c o e (nI (tg_jX p r d i nx)) (nI n)) → ∀ e, d < e → wX_nextOrder_18 post (nI r) (nI n) F c o e (nI nx) (nI i) := by
  intro d
  induction d with
  | zero =>
    intro i nx hi H e he
    have z : i = n := by omega
    rw [z]
    exact H e (by omega)
  | succ d ih =>
    intro i nx hi H e he
    obtain ⟨e, rfl⟩ : ∃ k, e = k + 1 := ⟨e - 1, by omega⟩
    have p1 := hp i (by omega)
    have p2 := hp r hr
    have e1 : o (nI i).toNatClampNeg = nI (p i) := by rw [nI_clamp (by omega)]; exact hO i (by omega)
    have e2 : o (nI r).toNatClampNeg = nI (p r) := by rw [nI_clamp (by omega)]; exact hO r hr
    refine br_f (nI_ge (by omega) (by omega)) ⟨vp_in_nI (by omega) (by omega), vp_in_nI (by omega) (by omega), ?_⟩
    by_cases z : p r < p i
    · rw [tg_jX, if_pos z] at H
      exact br_f (by rw [e1, e2]; exact nI_ge z (by omega)) (nm_r (nI_1 i) (ih (i + 1) i (by omega) H e (by omega)))
    · rw [tg_jX, if_neg z] at H
      exact br_t (by rw [e1, e2]; exact nI_le (by omega) (by omega)) (nm_r (nI_1 i) (ih (i + 1) nx (by omega) H e (by omega)))
theorem tx_next {post : SX → Prop} {F : Int32} {c o : Nat → Int32} {n k : Nat} (h1 : 1 ≤ n) (h7 : n ≤ 7) (hk : k < tg_fac n) (hO : tg_O n (tg_un n k) o)
    (H : ∀ o', (k + 1 < tg_fac n → tg_O n (tg_un n (k + 1)) o') → post (nI n, F, c, o')) : wpX_nextOrder post (nI n, F, c, o) := by
  obtain ⟨hp, hY, hA, hB⟩ := tg_fact (tg_oks h1 h7 hk)
  unfold wpX_nextOrder
  dsimp only
  unfold wpX_lastRise
  dsimp only
  obtain ⟨m, rfl⟩ : ∃ m, n = m + 1 := ⟨n - 1, by omega⟩
  refine nm_r (tg_i2 m) ⟨m + 1, tx_lr_l h7 hO hp m (by omega) ?_ (m + 1) (by omega)⟩
  have hr := tg_rise_le (tg_un (m + 1) k) m
  by_cases z : k + 1 < tg_fac (m + 1)
  · obtain ⟨h0, hj, hn⟩ := hA z
    rw [Nat.add_sub_cancel] at h0 hj hn
    generalize tg_rise (tg_un (m + 1) k) m = r at h0 hj hn hr ⊢
    obtain ⟨r, rfl⟩ : ∃ q, r = q + 1 := ⟨r - 1, by omega⟩
    rw [pk_m1]
    refine br_t (nI_pos' (by omega)) (nm_r (nI_1 r) (nm_r (show nI r + 2 = nI (r + 1 + 1) from nI_add r 2) ⟨m + 1, ?_⟩))
    have J := tg_jY_in (tg_un (m + 1) k) r (m + 1 - (r + 1))
    rw [Nat.add_sub_cancel] at hj
    refine tx_jx h7 hO hp (by omega) (m + 1 - (r + 1) - 1) (r + 1 + 1) (r + 1) (by omega) (fun e he => ?_) (m + 1) (by omega)
    obtain ⟨e, rfl⟩ : ∃ q, e = q + 1 := ⟨e - 1, by omega⟩
    rw [← hj]
    refine br_t (nI_le (by omega) (by omega)) ?_
    refine tx_sw h7 hO (by omega) (by omega) (fun o' hO' => ?_)
    refine nm_r (nI_1 r) (nm_r (tg_i1 m) ⟨5, ?_⟩)
    refine tx_rev h7 4 _ o' (r + 1) m hO' (by omega) (by omega) (by omega) (fun o2 h2 => H o2 (fun _ => ?_)) 5 (by omega)
    exact tg_O_e h2 hn
  · have h0 := hB z
    rw [Nat.add_sub_cancel] at h0
    rw [h0, tg_m1]
    exact br_f (by decide) (H o (fun w => absurd w z))
end
section
/-! 03: the class: isLaying, formOfOrder, copySwapped -/
theorem tx_ly_in {post : Int32 → Prop} {J : Int32 → Prop} {F : Int32} {c o : Nat → Int32} {p : Nat → Nat} {n g h a : Nat} (hn : n ≤ 7) (hg : g < 2) (hh : h < 2) (hO : tg_O n p o) (hp : ∀ i, i < n → p i < n) (ha : a < n)
    (hb : ∀ b, b ≤ a → ¬ c (49 * g + 7 * a + b) = c (49 * h + 7 * p a + p b) → post 0)
    (hJ : (∀ b, b ≤ a → c (49 * g + 7 * a + b) = c (49 * h + 7 * p a + p b)) → J (nI (a + 1))) :
    ∀ d b, b + d = a + 1 → (∀ b', b' < b → c (49 * g + 7 * a + b') = c (49 * h + 7 * p a + p b')) → ∀ e, d < e → wX_isLaying_13 post J (nI g) (nI h) (nI a) (nI n) F c o e (nI b) := by
  intro d
  induction d with
  | zero =>
    intro b hd hA e he
    obtain ⟨e, rfl⟩ : ∃ k, e = k + 1 := ⟨e - 1, by omega⟩
    exact br_t (nI_lt (by omega) (by omega)) (nm_r (nI_1 a) (hJ (fun b' hb' => hA b' (by omega))))
  | succ d ih =>
    intro b hd hA e he
    obtain ⟨e, rfl⟩ : ∃ k, e = k + 1 := ⟨e - 1, by omega⟩
    have pa := hp a ha
    have pb := hp b (by omega)
    refine br_f (nI_nlt (by omega) (by omega)) ?_
    refine tx_pl g a b rfl rfl rfl ?_
    refine ⟨vp_in_nI (by omega) (by omega), nm_r (congrArg c (nI_clamp (by omega))) ?_⟩
    refine ⟨vp_in_nI (by omega) (by omega), vp_in_nI (by omega) (by omega), ?_⟩
    refine tx_pl h (p a) (p b) rfl (by rw [nI_clamp (by omega)]; exact hO a ha) (by rw [nI_clamp (by omega)]; exact hO b (by omega)) ?_
    refine ⟨vp_in_nI (by omega) (by omega), nm_r (congrArg c (nI_clamp (by omega))) ?_⟩
    by_cases z : c (49 * g + 7 * a + b) = c (49 * h + 7 * p a + p b)
    · refine br_t z (nm_r (nI_1 b) (ih (b + 1) (by omega) (fun b' hb' => ?_) e (by omega)))
      by_cases w : b' = b
      · rw [w]; exact z
      · exact hA b' (by omega)
    · exact br_f z (hb b (by omega) z)
theorem tx_ly_out {post : Int32 → Prop} {F : Int32} {c o : Nat → Int32} {p : Nat → Nat} {n g h : Nat} (hn : n ≤ 7) (hg : g < 2) (hh : h < 2) (hO : tg_O n p o) (hp : ∀ i, i < n → p i < n)
    (H1 : tg_LY c p n g h → post 1) (H0 : ¬ tg_LY c p n g h → post 0) :
    ∀ d a, a + d = n → (∀ a', a' < a → ∀ b, b ≤ a' → c (49 * g + 7 * a' + b) = c (49 * h + 7 * p a' + p b)) → ∀ e, d < e → wX_isLaying_2 post (nI g) (nI h) (nI n) F c o e (nI a) := by
  intro d
  induction d with
  | zero =>
    intro a hd hA e he
    obtain ⟨e, rfl⟩ : ∃ k, e = k + 1 := ⟨e - 1, by omega⟩
    exact br_t (nI_le (by omega) (by omega)) (H1 (fun a' ha' => hA a' (by omega)))
  | succ d ih =>
    intro a hd hA e he
    obtain ⟨e, rfl⟩ : ∃ k, e = k + 1 := ⟨e - 1, by omega⟩
    refine br_f (nI_ge (by omega) (by omega)) ⟨a + 2, ?_⟩
    refine tx_ly_in hn hg hh hO hp (by omega) (fun b hb z => H0 (fun L => z (L a (by omega) b hb))) (fun hB => ?_) (a + 1) 0 (by omega) lt_0 (a + 2) (by omega)
    refine ih (a + 1) (by omega) (fun a' ha' => ?_) e (by omega)
    by_cases w : a' = a
    · rw [w]; exact hB
    · exact hA a' (by omega)
theorem tx_ly {post : Int32 → Prop} {F : Int32} {c o : Nat → Int32} {p : Nat → Nat} {n g h : Nat} (hn : n ≤ 7) (hg : g < 2) (hh : h < 2) (hO : tg_O n p o) (hp : ∀ i, i < n → p i < n)
    (H1 : tg_LY c p n g h → post 1) (H0 : ¬ tg_LY c p n g h → post 0) : wpX_isLaying post (nI n, F, c, o) (nI g) (nI h) :=
  ⟨n + 1, tx_ly_out hn hg hh hO hp H1 H0 n 0 (by omega) (fun a ha => absurd ha (by omega)) (n + 1) (by omega)⟩
theorem tx_fo_in {post : Int64 → Prop} {J : Int64 → Int32 → Prop} {F : Int32} {c o : Nat → Int32} {p : Nat → Nat} {n g a : Nat} (hn : n ≤ 7) (hg : g < 2) (hO : tg_O n p o) (hp : ∀ i, i < n → p i < n) (ha : a < n) :
    ∀ d b r, b + d = a + 1 → J (tg_fi c p g a d b r) (nI (a + 1)) → ∀ e, d < e → wX_formOfOrder_17 post J (nI g) (nI a) (nI n) F c o e r (nI b) := by
  intro d
  induction d with
  | zero =>
    intro b r hd H e he
    obtain ⟨e, rfl⟩ : ∃ k, e = k + 1 := ⟨e - 1, by omega⟩
    exact br_t (nI_lt (by omega) (by omega)) (nm_r (nI_1 a) H)
  | succ d ih =>
    intro b r hd H e he
    obtain ⟨e, rfl⟩ : ∃ k, e = k + 1 := ⟨e - 1, by omega⟩
    have pa := hp a ha
    have pb := hp b (by omega)
    refine br_f (nI_nlt (by omega) (by omega)) ⟨vp_in_nI (by omega) (by omega), vp_in_nI (by omega) (by omega), ?_⟩
    refine tx_pl g (p a) (p b) rfl (by rw [nI_clamp (by omega)]; exact hO a ha) (by rw [nI_clamp (by omega)]; exact hO b (by omega)) ?_
    refine ⟨vp_in_nI (by omega) (by omega), nm_r (congrArg (fun q => r * 4 + (c q).toInt64) (nI_clamp (by omega))) (nm_r (nI_1 b) ?_)⟩
    exact ih (b + 1) _ (by omega) H e (by omega)
theorem tx_fo_out {post : Int64 → Prop} {F : Int32} {c o : Nat → Int32} {p : Nat → Nat} {n g : Nat} (hn : n ≤ 7) (hg : g < 2) (hO : tg_O n p o) (hp : ∀ i, i < n → p i < n) :
    ∀ d a r, a + d = n → post (tg_fo c p g d a r) → ∀ e, d < e → wX_formOfOrder_5 post (nI g) (nI n) F c o e r (nI a) := by
  intro d
  induction d with
  | zero =>
    intro a r hd H e he
    obtain ⟨e, rfl⟩ : ∃ k, e = k + 1 := ⟨e - 1, by omega⟩
    exact br_t (nI_le (by omega) (by omega)) H
  | succ d ih =>
    intro a r hd H e he
    obtain ⟨e, rfl⟩ : ∃ k, e = k + 1 := ⟨e - 1, by omega⟩
    refine br_f (nI_ge (by omega) (by omega)) ⟨a + 2, ?_⟩
    exact tx_fo_in hn hg hO hp (by omega) (a + 1) 0 r (by omega) (ih (a + 1) _ (by omega) H e (by omega)) (a + 2) (by omega)
theorem tx_fo {post : Int64 → Prop} {F : Int32} {c o : Nat → Int32} {p : Nat → Nat} {n g : Nat} (hn : n ≤ 7) (hg : g < 2) (hO : tg_O n p o) (hp : ∀ i, i < n → p i < n) (H : post (tg_fo c p g n 0 0)) : wpX_formOfOrder post (nI n, F, c, o) (nI g) :=
  ⟨n + 1, tx_fo_out hn hg hO hp n 0 0 (by omega) H (n + 1) (by omega)⟩
def tg_DX (x y : Nat) : Nat → Nat → Prop := fun x' y' => (x' < x ∧ y' < x) ∨ (x' = x ∧ y' < y) ∨ (y' = x ∧ x' < y)
theorem tx_cs_in {post : Int32 → SX → Prop} {J : Int32 → Int32 → Int32 → (Nat → Int32) → (Nat → Int32) → Prop} {F : Int32} {c o : Nat → Int32} {s : Nat → Nat} {n g x : Nat} (hn : n ≤ 7) (hg : g < 2) (hO : tg_O n s o) (hs : ∀ i, i < n → s i < n) (hc : tg_Sy n c) (hx : x < n)
    (HJ : ∀ f, tg_CK c s n g (tg_DX (x + 1) 0) f → J (nI (x + 1)) (nI n) F f o) :
    ∀ d y f, y + d = x + 1 → tg_CK c s n g (tg_DX x y) f → ∀ e, d < e → wX_copySwapped_42 post J (nI g) (nI (1 - g)) (nI x) e (nI y) (nI n) F f o := by
  intro d
  induction d with
  | zero =>
    intro y f hd H e he
    obtain ⟨e, rfl⟩ : ∃ k, e = k + 1 := ⟨e - 1, by omega⟩
    refine br_t (nI_lt (by omega) (by omega)) (nm_r (nI_1 x) (HJ f (tg_CK_m H (fun x' y' hx' hy' z => ?_))))
    unfold tg_DX at z ⊢
    omega
  | succ d ih =>
    intro y f hd H e he
    obtain ⟨e, rfl⟩ : ∃ k, e = k + 1 := ⟨e - 1, by omega⟩
    have sx := hs x hx
    have sy := hs y (by omega)
    refine br_f (nI_nlt (by omega) (by omega)) ⟨vp_in_nI (by omega) (by omega), vp_in_nI (by omega) (by omega), ?_⟩
    refine tx_pl (1 - g) (s x) (s y) rfl (by rw [nI_clamp (by omega)]; exact hO x hx) (by rw [nI_clamp (by omega)]; exact hO y (by omega)) ?_
    refine ⟨vp_in_nI (by omega) (by omega), ?_⟩
    rw [nI_clamp (by omega)]
    refine tx_set hn hg hx (by omega) ?_
    refine nm_r (nI_1 y) ?_
    refine ih (y + 1) _ (by omega) (tg_CK_x hn hg hs hc H hx (by omega) (fun x' y' hx' hy' z => ?_)) e (by omega)
    unfold tg_DX at z ⊢
    omega
theorem tx_cs_out {post : Int32 → SX → Prop} {F : Int32} {c o : Nat → Int32} {s : Nat → Nat} {n g : Nat} (hn : n ≤ 7) (hg : g < 2) (hO : tg_O n s o) (hs : ∀ i, i < n → s i < n) (hc : tg_Sy n c)
    (H : ∀ f, tg_CK c s n g (tg_DX n 0) f → post 0 (nI n, F, f, o)) :
    ∀ d x f, x + d = n → tg_CK c s n g (tg_DX x 0) f → ∀ e, d < e → wX_copySwapped_30 post (nI g) (nI (1 - g)) e (nI x) (nI n) F f o := by
  intro d
  induction d with
  | zero =>
    intro x f hd hf e he
    obtain ⟨e, rfl⟩ : ∃ k, e = k + 1 := ⟨e - 1, by omega⟩
    have z : x = n := by omega
    rw [z] at hf
    exact br_t (nI_le (by omega) (by omega)) (H f hf)
  | succ d ih =>
    intro x f hd hf e he
    obtain ⟨e, rfl⟩ : ∃ k, e = k + 1 := ⟨e - 1, by omega⟩
    refine br_f (nI_ge (by omega) (by omega)) ⟨x + 2, ?_⟩
    exact tx_cs_in hn hg hO hs hc (by omega) (fun f' hf' => ih (x + 1) f' (by omega) hf' e (by omega)) (x + 1) 0 f (by omega) hf (x + 2) (by omega)
theorem tx_cs {post : Int32 → SX → Prop} {F : Int32} {c o : Nat → Int32} {n g a b : Nat} (hn : n ≤ 7) (hg : g < 2) (ha : a < n) (hb : b < n) (hc : tg_Sy n c)
    (H : ∀ f o', tg_CK c (tg_sw (fun i => i) a b) n g (tg_DX n 0) f → post 0 (nI n, F, f, o')) : wpX_copySwapped post (nI n, F, c, o) (nI g) (nI a) (nI b) := by
  unfold wpX_copySwapped
  dsimp only
  unfold wpX_isPair
  dsimp only
  refine tx_gt hg (br_f tg_10 ?_)
  refine tx_pt hn ha (br_f tg_10 ?_)
  refine tx_pt hn hb (br_f tg_10 ?_)
  refine br_f tg_10 ?_
  refine nm_r (show 1 - nI g = nI (1 - g) from pk_sub (a := 1) (by omega)) ?_
  refine tx_sti hn (fun o1 h1 => ?_)
  refine tx_sw hn h1 ha hb (fun o2 h2 => ?_)
  exact ⟨n + 1, tx_cs_out hn hg h2 (tg_sw_lt (fun x hx => hx) ha hb) hc (fun f hf => H f o2 hf) n 0 c (by omega) (tg_CK_0 (fun x y z => by unfold tg_DX at z; omega)) (n + 1) (by omega)⟩
end
section
/-! 04: the reference's own small walks -/
theorem ty_gt {post : Int32 → Prop} {g : Nat} (hg : g < 2) (H : post 1) : wpY_isGraph post (nI g) := by
  rcases (by omega : g = 0 ∨ g = 1) with rfl | rfl
  · exact br_t (by decide) H
  · exact br_f (by decide) (br_t (by decide) H)
theorem ty_gf {post : Int32 → Prop} {g : Int32} (h : ¬ g = 0 ∧ ¬ g = 1) (H : post 0) : wpY_isGraph post g := br_f h.1 (br_f h.2 H)
theorem ty_pt {post : Int32 → Prop} {c o : Nat → Int32} {n a : Nat} (hn : n ≤ 7) (ha : a < n) (H : post 1) : wpY_point post (nI n, c, o) (nI a) :=
  br_f (nI_pos (by omega)) (br_f (nI_ge ha (by omega)) H)
theorem ty_pf {post : Int32 → Prop} {c o : Nat → Int32} {n : Nat} {a : Int32} (h : a < 0 ∨ (¬ a < 0 ∧ ¬ a < nI n)) (H : post 0) : wpY_point post (nI n, c, o) a := by
  rcases h with h | ⟨h1, h2⟩
  · exact br_t h H
  · exact br_f h1 (br_t (Int32.not_lt.mp h2) H)
theorem ty_at {post : Int32 → Prop} {N : Int32} {c o : Nat → Int32} {x y z : Int32} (g a b : Nat) (hx : x = nI g) (hy : y = nI a) (hz : z = nI b) (hl : 49 * g + 7 * a + b < 98) (H : post (c (49 * g + 7 * a + b))) : wpY_at post (N, c, o) x y z := by
  subst hx hy hz
  unfold wpY_at
  dsimp only
  rw [tg_plY, nI_clamp (by omega)]
  exact ⟨vp_in_nI hl (by omega), H⟩
theorem ty_set {post : SY → Prop} {N : Int32} {c o : Nat → Int32} {n g a b : Nat} {v : Int32} (hn : n ≤ 7) (hg : g < 2) (ha : a < n) (hb : b < n)
    (H : post (N, upd (upd c (49 * g + 7 * a + b) v) (49 * g + 7 * b + a) v, o)) : wpY_set post (N, c, o) (nI g) (nI a) (nI b) v := by
  unfold wpY_set
  dsimp only
  rw [tg_plY, tg_plY, nI_clamp (by omega), nI_clamp (by omega)]
  exact ⟨vp_in_nI (by omega) (by omega), nm_e ⟨vp_in_nI (by omega) (by omega), nm_e H⟩⟩
theorem ty_st_l {post : SY → Prop} {N : Int32} {c : Nat → Int32} (H : ∀ o', tg_O 7 (fun i => i) o' → post (N, c, o')) :
    ∀ d i o, i + d = 7 → (∀ j, j < i → o j = nI j) → ∀ e, d < e → wY_start_2 post N e (nI i) c o := by
  intro d
  induction d with
  | zero =>
    intro i o hi ho e he
    obtain ⟨e, rfl⟩ : ∃ k, e = k + 1 := ⟨e - 1, by omega⟩
    exact br_t (nI_le (a := 7) (by omega) (by omega)) (H o (fun j hj => ho j (by omega)))
  | succ d ih =>
    intro i o hi ho e he
    obtain ⟨e, rfl⟩ : ∃ k, e = k + 1 := ⟨e - 1, by omega⟩
    refine br_f (nI_ge (b := 7) (by omega) (by omega)) ⟨vp_in_nI (by omega) (by omega), nm_r (by rw [nI_clamp (by omega)]) (nm_r (nI_1 i) ?_)⟩
    refine ih (i + 1) _ (by omega) (fun j hj => ?_) e (by omega)
    by_cases z : j = i
    · rw [z, pk_us]
    · rw [pk_un z]; exact ho j (by omega)
theorem ty_st {post : SY → Prop} {N : Int32} {c o : Nat → Int32} {n : Nat} (hn : n ≤ 7) (H : ∀ o', tg_O n (tg_un n 0) o' → post (N, c, o')) : wpY_start post (N, c, o) :=
  ⟨8, ty_st_l (fun o' h' => H o' (fun i hi => by rw [h' i (by omega), tg_un0 n (by omega) i hi])) 7 0 o (by omega) (fun j hj => absurd hj (by omega)) 8 (by omega)⟩
/-! the step to the next order -/
theorem ty_lr_l {post : Int32 → SY → Prop} {c o : Nat → Int32} {p : Nat → Nat} {n : Nat} (hn : n ≤ 7) (hO : tg_O n p o) (hp : ∀ i, i < n → p i < n) :
    ∀ m, m + 1 ≤ n → wY_next_34 post (nI (tg_riseY p m) + (-1)) (nI n) c o → ∀ e, m < e → wY_next_7 post (nI n) c o e (nI m + (-1)) := by
  intro m
  induction m with
  | zero =>
    intro hm H e he
    obtain ⟨e, rfl⟩ : ∃ k, e = k + 1 := ⟨e - 1, by omega⟩
    have H2 : wY_next_34 post (nI 0 + (-1)) (nI n) c o := H
    rw [tg_m1] at H2 ⊢
    exact br_t tg_neg H2
  | succ m ih =>
    intro hm H e he
    obtain ⟨e, rfl⟩ : ∃ k, e = k + 1 := ⟨e - 1, by omega⟩
    have p1 := hp m (by omega)
    have p2 := hp (m + 1) (by omega)
    have e1 : o (nI m).toNatClampNeg = nI (p m) := by rw [nI_clamp (by omega)]; exact hO m (by omega)
    have e2 : o (nI m + 1).toNatClampNeg = nI (p (m + 1)) := by rw [nI_1, nI_clamp (by omega)]; exact hO (m + 1) (by omega)
    rw [pk_m1]
    refine br_f (nI_pos (by omega)) ⟨vp_in_nI (by omega) (by omega), by rw [nI_1]; exact vp_in_nI (by omega) (by omega), ?_⟩
    by_cases z : p (m + 1) < p m
    · refine br_f (by rw [e1, e2]; exact nI_ge z (by omega)) (nm_e ?_)
      rw [tg_riseY, if_pos z] at H
      exact ih (by omega) H e (by omega)
    · refine br_t (by rw [e1, e2]; exact nI_le (by omega) (by omega)) ?_
      rw [tg_riseY, if_neg z, pk_m1] at H
      exact H
theorem ty_rev {post : Int32 → SY → Prop} {N : Int32} {c : Nat → Int32} {n : Nat} (hn : n ≤ 7) :
    ∀ d p o lo hi, tg_O n p o → lo ≤ n → hi < n → hi ≤ lo + 2 * d → (∀ o', tg_O n (tg_rev d p lo hi) o' → post 1 (N, c, o')) → ∀ e, d < e → wY_next_112 post N e (nI lo) (nI hi) c o := by
  intro d
  induction d with
  | zero =>
    intro p o lo hi hO hl hh hd H e he
    obtain ⟨e, rfl⟩ : ∃ k, e = k + 1 := ⟨e - 1, by omega⟩
    exact br_t (nI_le (by omega) (by omega)) (H o hO)
  | succ d ih =>
    intro p o lo hi hO hl hh hd H e he
    obtain ⟨e, rfl⟩ : ∃ k, e = k + 1 := ⟨e - 1, by omega⟩
    by_cases z : lo < hi
    · rw [tg_rev, if_pos z] at H
      have vi : vp_in (nI lo) 7 := vp_in_nI (by omega) (by omega)
      have vj : vp_in (nI hi) 7 := vp_in_nI (by omega) (by omega)
      have hO' := tg_O_sw hO (i := lo) (j := hi) (by omega) hh
      obtain ⟨hi, rfl⟩ : ∃ k, hi = k + 1 := ⟨hi - 1, by omega⟩
      refine br_f (nI_ge z (by omega)) ⟨vi, nm_e ⟨vj, vi, nm_e ⟨vj, nm_e (nm_r (nI_1 lo) (nm_r (pk_m1 hi) ?_))⟩⟩⟩
      rw [nI_clamp (n := lo) (by omega), nI_clamp (n := hi + 1) (by omega)]
      exact ih _ _ (lo + 1) hi hO' (by omega) (by omega) (by omega) H e (by omega)
    · rw [tg_rev, if_neg z] at H
      exact br_t (nI_le (by omega) (by omega)) (H o hO)
theorem ty_jy {post : Int32 → SY → Prop} {N : Int32} {c o : Nat → Int32} {p : Nat → Nat} {n i : Nat} (hn : n ≤ 7) (hO : tg_O n p o) (hp : ∀ i, i < n → p i < n) :
    ∀ d, i + d < n → wY_next_73 post (nI i) (nI (tg_jY p i d)) N c o → ∀ e, d < e → wY_next_47 post (nI i) N c o e (nI (i + d)) := by
  intro d
  induction d with
  | zero =>
    intro hd H e he
    obtain ⟨e, rfl⟩ : ∃ k, e = k + 1 := ⟨e - 1, by omega⟩
    exact br_t (nI_le (by omega) (by omega)) H
  | succ d ih =>
    intro hd H e he
    obtain ⟨e, rfl⟩ : ∃ k, e = k + 1 := ⟨e - 1, by omega⟩
    have p1 := hp i (by omega)
    have p2 := hp (i + (d + 1)) (by omega)
    have e1 : o (nI i).toNatClampNeg = nI (p i) := by rw [nI_clamp (by omega)]; exact hO i (by omega)
    have e2 : o (nI (i + (d + 1))).toNatClampNeg = nI (p (i + (d + 1))) := by rw [nI_clamp (by omega)]; exact hO _ (by omega)
    refine br_f (nI_ge (by omega) (by omega)) ⟨vp_in_nI (by omega) (by omega), vp_in_nI (by omega) (by omega), ?_⟩
    by_cases z : p (i + (d + 1)) < p i
    · rw [tg_jY, if_pos z] at H
      exact br_f (by rw [e1, e2]; exact nI_ge z (by omega)) (nm_r (pk_m1 (i + d)) (ih (by omega) H e (by omega)))
    · rw [tg_jY, if_neg z] at H
      exact br_t (by rw [e1, e2]; exact nI_le (by omega) (by omega)) H
theorem ty_next {post : Int32 → SY → Prop} {c o : Nat → Int32} {n k : Nat} (h1 : 1 ≤ n) (h7 : n ≤ 7) (hk : k < tg_fac n) (hO : tg_O n (tg_un n k) o)
    (HA : k + 1 < tg_fac n → ∀ o', tg_O n (tg_un n (k + 1)) o' → post 1 (nI n, c, o')) (HB : ¬ k + 1 < tg_fac n → ∀ o', post 0 (nI n, c, o')) : wpY_next post (nI n, c, o) := by
  obtain ⟨hp, hY, hA, hB⟩ := tg_fact (tg_oks h1 h7 hk)
  unfold wpY_next
  dsimp only
  obtain ⟨m, rfl⟩ : ∃ m, n = m + 1 := ⟨n - 1, by omega⟩
  refine nm_r (tg_i2 m) ⟨m + 1, ty_lr_l h7 hO hp m (by omega) ?_ (m + 1) (by omega)⟩
  rw [Nat.add_sub_cancel] at hY
  rw [hY]
  have hr := tg_rise_le (tg_un (m + 1) k) m
  unfold wY_next_34
  by_cases z : k + 1 < tg_fac (m + 1)
  · obtain ⟨h0, hj, hn⟩ := hA z
    have HA' := HA z
    rw [Nat.add_sub_cancel] at h0 hn
    generalize tg_rise (tg_un (m + 1) k) m = r at h0 hn hr ⊢
    obtain ⟨r, rfl⟩ : ∃ q, r = q + 1 := ⟨r - 1, by omega⟩
    rw [pk_m1]
    have J := tg_jY_in (tg_un (m + 1) k) r (m + 1 - (r + 1))
    have ed : nI (r + (m + 1 - (r + 1))) = nI m := congrArg nI (by omega)
    refine br_t (nI_pos' (by omega)) (nm_r (tg_i1 m) ⟨m + 1, ?_⟩)
    rw [← ed]
    refine ty_jy h7 hO hp (m + 1 - (r + 1)) (by omega) ?_ (m + 1) (by omega)
    generalize ej : tg_jY (tg_un (m + 1) k) r (m + 1 - (r + 1)) = j at J
    have vi : vp_in (nI r) 7 := vp_in_nI (by omega) (by omega)
    have vj : vp_in (nI j) 7 := vp_in_nI (by omega) (by omega)
    have hO' := tg_O_sw hO (i := r) (j := j) (by omega) (by omega)
    refine ⟨vi, nm_e ⟨vj, vi, nm_e ⟨vj, nm_e (nm_r (nI_1 r) (nm_r (tg_i1 m) ⟨5, ?_⟩))⟩⟩⟩
    rw [nI_clamp (n := r) (by omega), nI_clamp (n := j) (by omega)]
    refine ty_rev h7 4 _ _ (r + 1) m hO' (by omega) (by omega) (by omega) (fun o2 h2 => HA' o2 ?_) 5 (by omega)
    rw [← ej] at h2
    exact tg_O_e h2 hn
  · have h0 := hB z
    rw [Nat.add_sub_cancel] at h0
    rw [h0, tg_m1]
    exact br_f (by decide) (HB z o)
end
section
/-! 05: the reference: lays, row, copySwapped -/
theorem ty_ly_in {post : Int32 → Prop} {J : Int32 → Prop} {N : Int32} {c o : Nat → Int32} {p : Nat → Nat} {n g h a : Nat} (hn : n ≤ 7) (hg : g < 2) (hh : h < 2) (hO : tg_O n p o) (hp : ∀ i, i < n → p i < n) (ha : a < n)
    (hb : ∀ b, b ≤ a → ¬ c (49 * g + 7 * a + b) = c (49 * h + 7 * p a + p b) → post 0)
    (hJ : (∀ b, b ≤ a → c (49 * g + 7 * a + b) = c (49 * h + 7 * p a + p b)) → J (nI (a + 1))) :
    ∀ d b, b + d = a + 1 → (∀ b', b' < b → c (49 * g + 7 * a + b') = c (49 * h + 7 * p a + p b')) → ∀ e, d < e → wY_lays_13 post J (nI g) (nI h) (nI a) N c o e (nI b) := by
  intro d
  induction d with
  | zero =>
    intro b hd hA e he
    obtain ⟨e, rfl⟩ : ∃ k, e = k + 1 := ⟨e - 1, by omega⟩
    exact br_t (nI_lt (by omega) (by omega)) (nm_r (nI_1 a) (hJ (fun b' hb' => hA b' (by omega))))
  | succ d ih =>
    intro b hd hA e he
    obtain ⟨e, rfl⟩ : ∃ k, e = k + 1 := ⟨e - 1, by omega⟩
    have pa := hp a ha
    have pb := hp b (by omega)
    refine br_f (nI_nlt (by omega) (by omega)) ?_
    refine ty_at g a b rfl rfl rfl (by omega) ?_
    refine ⟨vp_in_nI (by omega) (by omega), vp_in_nI (by omega) (by omega), ?_⟩
    refine ty_at h (p a) (p b) rfl (by rw [nI_clamp (by omega)]; exact hO a ha) (by rw [nI_clamp (by omega)]; exact hO b (by omega)) (by omega) ?_
    by_cases z : c (49 * g + 7 * a + b) = c (49 * h + 7 * p a + p b)
    · refine br_t z (nm_r (nI_1 b) (ih (b + 1) (by omega) (fun b' hb' => ?_) e (by omega)))
      by_cases w : b' = b
      · rw [w]; exact z
      · exact hA b' (by omega)
    · exact br_f z (hb b (by omega) z)
theorem ty_ly_out {post : Int32 → Prop} {c o : Nat → Int32} {p : Nat → Nat} {n g h : Nat} (hn : n ≤ 7) (hg : g < 2) (hh : h < 2) (hO : tg_O n p o) (hp : ∀ i, i < n → p i < n)
    (H1 : tg_LY c p n g h → post 1) (H0 : ¬ tg_LY c p n g h → post 0) :
    ∀ d a, a + d = n → (∀ a', a' < a → ∀ b, b ≤ a' → c (49 * g + 7 * a' + b) = c (49 * h + 7 * p a' + p b)) → ∀ e, d < e → wY_lays_2 post (nI g) (nI h) (nI n) c o e (nI a) := by
  intro d
  induction d with
  | zero =>
    intro a hd hA e he
    obtain ⟨e, rfl⟩ : ∃ k, e = k + 1 := ⟨e - 1, by omega⟩
    exact br_t (nI_le (by omega) (by omega)) (H1 (fun a' ha' => hA a' (by omega)))
  | succ d ih =>
    intro a hd hA e he
    obtain ⟨e, rfl⟩ : ∃ k, e = k + 1 := ⟨e - 1, by omega⟩
    refine br_f (nI_ge (by omega) (by omega)) ⟨a + 2, ?_⟩
    refine ty_ly_in hn hg hh hO hp (by omega) (fun b hb z => H0 (fun L => z (L a (by omega) b hb))) (fun hB => ?_) (a + 1) 0 (by omega) lt_0 (a + 2) (by omega)
    refine ih (a + 1) (by omega) (fun a' ha' => ?_) e (by omega)
    by_cases w : a' = a
    · rw [w]; exact hB
    · exact hA a' (by omega)
theorem ty_ly {post : Int32 → Prop} {c o : Nat → Int32} {p : Nat → Nat} {n g h : Nat} (hn : n ≤ 7) (hg : g < 2) (hh : h < 2) (hO : tg_O n p o) (hp : ∀ i, i < n → p i < n)
    (H1 : tg_LY c p n g h → post 1) (H0 : ¬ tg_LY c p n g h → post 0) : wpY_lays post (nI n, c, o) (nI g) (nI h) :=
  ⟨n + 1, ty_ly_out hn hg hh hO hp H1 H0 n 0 (by omega) (fun a ha => absurd ha (by omega)) (n + 1) (by omega)⟩
theorem ty_fo_in {post : Int64 → Prop} {J : Int64 → Int32 → Prop} {N : Int32} {c o : Nat → Int32} {p : Nat → Nat} {n g a : Nat} (hn : n ≤ 7) (hg : g < 2) (hO : tg_O n p o) (hp : ∀ i, i < n → p i < n) (ha : a < n) :
    ∀ d b r, b + d = a + 1 → J (tg_fi c p g a d b r) (nI (a + 1)) → ∀ e, d < e → wY_row_17 post J (nI g) (nI a) N c o e r (nI b) := by
  intro d
  induction d with
  | zero =>
    intro b r hd H e he
    obtain ⟨e, rfl⟩ : ∃ k, e = k + 1 := ⟨e - 1, by omega⟩
    exact br_t (nI_lt (by omega) (by omega)) (nm_r (nI_1 a) H)
  | succ d ih =>
    intro b r hd H e he
    obtain ⟨e, rfl⟩ : ∃ k, e = k + 1 := ⟨e - 1, by omega⟩
    have pa := hp a ha
    have pb := hp b (by omega)
    refine br_f (nI_nlt (by omega) (by omega)) ⟨vp_in_nI (by omega) (by omega), vp_in_nI (by omega) (by omega), ?_⟩
    refine ty_at g (p a) (p b) rfl (by rw [nI_clamp (by omega)]; exact hO a ha) (by rw [nI_clamp (by omega)]; exact hO b (by omega)) (by omega) ?_
    refine nm_e (nm_r (nI_1 b) ?_)
    exact ih (b + 1) _ (by omega) H e (by omega)
theorem ty_fo_out {post : Int64 → Prop} {c o : Nat → Int32} {p : Nat → Nat} {n g : Nat} (hn : n ≤ 7) (hg : g < 2) (hO : tg_O n p o) (hp : ∀ i, i < n → p i < n) :
    ∀ d a r, a + d = n → post (tg_fo c p g d a r) → ∀ e, d < e → wY_row_5 post (nI g) (nI n) c o e r (nI a) := by
  intro d
  induction d with
  | zero =>
    intro a r hd H e he
    obtain ⟨e, rfl⟩ : ∃ k, e = k + 1 := ⟨e - 1, by omega⟩
    exact br_t (nI_le (by omega) (by omega)) H
  | succ d ih =>
    intro a r hd H e he
    obtain ⟨e, rfl⟩ : ∃ k, e = k + 1 := ⟨e - 1, by omega⟩
    refine br_f (nI_ge (by omega) (by omega)) ⟨a + 2, ?_⟩
    exact ty_fo_in hn hg hO hp (by omega) (a + 1) 0 r (by omega) (ih (a + 1) _ (by omega) H e (by omega)) (a + 2) (by omega)
theorem ty_fo {post : Int64 → Prop} {c o : Nat → Int32} {p : Nat → Nat} {n g : Nat} (hn : n ≤ 7) (hg : g < 2) (hO : tg_O n p o) (hp : ∀ i, i < n → p i < n) (H : post (tg_fo c p g n 0 0)) : wpY_row post (nI n, c, o) (nI g) :=
  ⟨n + 1, ty_fo_out hn hg hO hp n 0 0 (by omega) H (n + 1) (by omega)⟩
theorem tg_s1 {a b x : Nat} (h : x = a) : tg_sw (fun i => i) a b x = b := by
  show (if x = b then a else if x = a then b else x) = b
  by_cases e : x = b
  · rw [if_pos e]; omega
  · rw [if_neg e, if_pos h]
theorem tg_s2 {a b x : Nat} (h : x = b) : tg_sw (fun i => i) a b x = a := if_pos h
theorem tg_s3 {a b x : Nat} (h : x ≠ a) (h2 : x ≠ b) : tg_sw (fun i => i) a b x = x := by
  show (if x = b then a else if x = a then b else x) = x
  rw [if_neg h2, if_neg h]
def tg_DY (x y : Nat) : Nat → Nat → Prop := fun x' y' => x' < x ∨ (x' = x ∧ y' < y)
theorem ty_cs95 {post : Int32 → SY → Prop} {J28 J40 : Int32 → (Nat → Int32) → (Nat → Int32) → Prop} {N x2 x3 : Int32} {f o : Nat → Int32} {g x y u v : Nat} (hg : g < 2) (hx : x < 7) (hy : y < 7) (hu : u < 7) (hv : v < 7)
    (H : J40 (nI (y + 1)) (upd f (49 * g + 7 * x + y) (f (49 * (1 - g) + 7 * u + v))) o) : wY_copySwapped_95 post J28 J40 (nI g) x2 x3 (nI x) (nI y) (nI u) (nI v) N f o := by
  unfold wY_copySwapped_95
  rw [show 1 - nI g = nI (1 - g) from pk_sub (a := 1) (by omega), tg_plY, tg_plY, nI_clamp (by omega), nI_clamp (by omega)]
  exact ⟨vp_in_nI (by omega) (by omega), vp_in_nI (by omega) (by omega), nm_e (nm_r (nI_1 y) H)⟩
theorem ty_cs71 {post : Int32 → SY → Prop} {J28 J40 : Int32 → (Nat → Int32) → (Nat → Int32) → Prop} {N : Int32} {f o : Nat → Int32} {g a b x y u : Nat} (hg : g < 2) (ha : a < 7) (hb : b < 7) (hx : x < 7) (hy : y < 7) (hu : u < 7)
    (H : J40 (nI (y + 1)) (upd f (49 * g + 7 * x + y) (f (49 * (1 - g) + 7 * u + tg_sw (fun i => i) a b y))) o) : wY_copySwapped_71 post J28 J40 (nI g) (nI a) (nI b) (nI x) (nI y) (nI u) N f o := by
  refine pk_eq y a (fun z => ?_) (fun z => ?_) rfl rfl (by omega) (by omega)
  · rw [tg_s1 z] at H
    exact ty_cs95 hg hx hy hu hb H
  · refine pk_eq y b (fun w => ?_) (fun w => ?_) rfl rfl (by omega) (by omega)
    · rw [tg_s2 w] at H
      exact ty_cs95 hg hx hy hu ha H
    · rw [tg_s3 z w] at H
      exact ty_cs95 hg hx hy hu hy H
theorem ty_cs_in {post : Int32 → SY → Prop} {J : Int32 → (Nat → Int32) → (Nat → Int32) → Prop} {c o : Nat → Int32} {n g a b x : Nat} (hn : n ≤ 7) (hg : g < 2) (ha : a < n) (hb : b < n) (hx : x < n)
    (HJ : ∀ f, tg_CK c (tg_sw (fun i => i) a b) n g (tg_DY (x + 1) 0) f → J (nI (x + 1)) f o) :
    ∀ d y f, y + d = n → tg_CK c (tg_sw (fun i => i) a b) n g (tg_DY x y) f → ∀ e, d < e → wY_copySwapped_40 post J (nI g) (nI a) (nI b) (nI x) (nI n) e (nI y) f o := by
  intro d
  induction d with
  | zero =>
    intro y f hd H e he
    obtain ⟨e, rfl⟩ : ∃ k, e = k + 1 := ⟨e - 1, by omega⟩
    refine br_t (nI_le (by omega) (by omega)) (nm_r (nI_1 x) (HJ f (tg_CK_m H (fun x' y' hx' hy' z => ?_))))
    unfold tg_DY at z ⊢
    omega
  | succ d ih =>
    intro y f hd H e he
    obtain ⟨e, rfl⟩ : ∃ k, e = k + 1 := ⟨e - 1, by omega⟩
    have hs : ∀ i, i < n → tg_sw (fun i => i) a b i < n := tg_sw_lt (fun x hx => hx) ha hb
    have K := ih (y + 1) _ (by omega) (tg_CK_y (D' := tg_DY x (y + 1)) hn hg hs H hx (y := y) (by omega) (fun x' y' hx' hy' z => by unfold tg_DY at z ⊢; omega)) e (by omega)
    refine br_f (nI_ge (by omega) (by omega)) ?_
    refine pk_eq x a (fun z => ?_) (fun z => ?_) rfl rfl (by omega) (by omega)
    · rw [tg_s1 z] at K
      exact ty_cs71 hg (by omega) (by omega) (by omega) (by omega) (by omega) K
    · refine pk_eq x b (fun w => ?_) (fun w => ?_) rfl rfl (by omega) (by omega)
      · rw [tg_s2 w] at K
        exact ty_cs71 hg (by omega) (by omega) (by omega) (by omega) (by omega) K
      · rw [tg_s3 z w] at K
        exact ty_cs71 hg (by omega) (by omega) (by omega) (by omega) (by omega) K
theorem ty_cs_out {post : Int32 → SY → Prop} {c o : Nat → Int32} {n g a b : Nat} (hn : n ≤ 7) (hg : g < 2) (ha : a < n) (hb : b < n)
    (H : ∀ f, tg_CK c (tg_sw (fun i => i) a b) n g (tg_DY n 0) f → post 0 (nI n, f, o)) :
    ∀ d x f, x + d = n → tg_CK c (tg_sw (fun i => i) a b) n g (tg_DY x 0) f → ∀ e, d < e → wY_copySwapped_28 post (nI g) (nI a) (nI b) (nI n) e (nI x) f o := by
  intro d
  induction d with
  | zero =>
    intro x f hd hf e he
    obtain ⟨e, rfl⟩ : ∃ k, e = k + 1 := ⟨e - 1, by omega⟩
    have z : x = n := by omega
    rw [z] at hf
    exact br_t (nI_le (by omega) (by omega)) (H f hf)
  | succ d ih =>
    intro x f hd hf e he
    obtain ⟨e, rfl⟩ : ∃ k, e = k + 1 := ⟨e - 1, by omega⟩
    refine br_f (nI_ge (by omega) (by omega)) ⟨n + 1, ?_⟩
    exact ty_cs_in hn hg ha hb (by omega) (fun f' hf' => ih (x + 1) f' (by omega) hf' e (by omega)) n 0 f (by omega) hf (n + 1) (by omega)
theorem ty_cs {post : Int32 → SY → Prop} {c o : Nat → Int32} {n g a b : Nat} (hn : n ≤ 7) (hg : g < 2) (ha : a < n) (hb : b < n)
    (H : ∀ f, tg_CK c (tg_sw (fun i => i) a b) n g (tg_DY n 0) f → post 0 (nI n, f, o)) : wpY_copySwapped post (nI n, c, o) (nI g) (nI a) (nI b) := by
  unfold wpY_copySwapped
  dsimp only
  refine ty_gt hg (br_f tg_10 ?_)
  refine ty_pt hn ha (br_f tg_10 ?_)
  refine ty_pt hn hb (br_f tg_10 ?_)
  exact ⟨n + 1, ty_cs_out hn hg ha hb H n 0 c (by omega) (tg_CK_0 (fun x y z => by unfold tg_DY at z; omega)) (n + 1) (by omega)⟩
end
section
/-! 06: the five searches, class and reference together: both are at the k-th order at turn k -/
theorem tg_hp {n k : Nat} (h1 : 1 ≤ n) (h7 : n ≤ 7) (hk : k < tg_fac n) : ∀ i, i < n → tg_un n k i < n := (tg_fact (tg_oks h1 h7 hk)).1
theorem tm_count {c : Nat → Int32} {n g h : Nat} (h1 : 1 ≤ n) (h7 : n ≤ 7) (hg : g < 2) (hh : h < 2) : ∀ d k s, k + d = tg_fac n → ∃ r : Int32,
    (∀ (post : Int32 → SX → Prop) o e, (0 < d → tg_O n (tg_un n k) o) → d < e → (∀ o', post r (nI n, nI (tg_fac n), c, o')) → wX_countLayings_9 post (nI g) (nI h) e s (nI k) (nI n) (nI (tg_fac n)) c o) ∧
    (∀ (post : Int32 → SY → Prop) o m e, (m = 0 ∧ d = 0) ∨ (m = 1 ∧ 0 < d ∧ tg_O n (tg_un n k) o) → d < e → (∀ o', post r (nI n, c, o')) → wY_count_12 post (nI g) (nI h) e s m (nI k) (nI n) c o) := by
  have hF := tg_fac_in n (by omega)
  intro d
  induction d with
  | zero =>
    intro k s hd
    refine ⟨s, fun post o e hO he H => ?_, fun post o m e hm he H => ?_⟩
    · obtain ⟨e, rfl⟩ : ∃ q, e = q + 1 := ⟨e - 1, by omega⟩
      exact br_t (nI_le (by omega) (by omega)) (H o)
    · obtain ⟨e, rfl⟩ : ∃ q, e = q + 1 := ⟨e - 1, by omega⟩
      rcases hm with ⟨rfl, _⟩ | ⟨_, q, _⟩
      · exact br_c (fun _ => H o) (fun _ => br_t rfl (H o))
      · omega
  | succ d ih =>
    intro k s hd
    have hk : k < tg_fac n := by omega
    have hp := tg_hp h1 h7 hk
    by_cases L : tg_LY c (tg_un n k) n g h
    · obtain ⟨r, hX, hY⟩ := ih (k + 1) (s + 1) (by omega)
      refine ⟨r, fun post o e hO he H => ?_, fun post o m e hm he H => ?_⟩
      · obtain ⟨e, rfl⟩ : ∃ q, e = q + 1 := ⟨e - 1, by omega⟩
        have hO := hO (by omega)
        refine br_f (nI_ge hk (by omega)) ?_
        refine tx_ly h7 hg hh hO hp (fun _ => ?_) (fun z => absurd L z)
        refine br_f tg_10 (nm_e ?_)
        unfold wX_countLayings_30
        refine tx_next h1 h7 hk hO (fun o' ho' => ?_)
        exact nm_r (nI_1 k) (hX post o' e (fun q => ho' (by omega)) (by omega) H)
      · obtain ⟨e, rfl⟩ : ∃ q, e = q + 1 := ⟨e - 1, by omega⟩
        rcases hm with ⟨_, q⟩ | ⟨rfl, _, hO⟩
        · omega
        · refine br_f (nI_ge (b := 5040) (by omega) (by omega)) (br_f tg_10 ?_)
          refine ty_ly h7 hg hh hO hp (fun _ => ?_) (fun z => absurd L z)
          refine br_f tg_10 (nm_e ?_)
          unfold wY_count_37
          refine ty_next h1 h7 hk hO (fun q o' ho' => ?_) (fun q o' => ?_)
          · exact nm_r (nI_1 k) (hY post o' 1 e (Or.inr ⟨rfl, by omega, ho'⟩) (by omega) H)
          · exact nm_r (nI_1 k) (hY post o' 0 e (Or.inl ⟨rfl, by omega⟩) (by omega) H)
    · obtain ⟨r, hX, hY⟩ := ih (k + 1) s (by omega)
      refine ⟨r, fun post o e hO he H => ?_, fun post o m e hm he H => ?_⟩
      · obtain ⟨e, rfl⟩ : ∃ q, e = q + 1 := ⟨e - 1, by omega⟩
        have hO := hO (by omega)
        refine br_f (nI_ge hk (by omega)) ?_
        refine tx_ly h7 hg hh hO hp (fun z => absurd z L) (fun _ => ?_)
        refine br_t rfl ?_
        unfold wX_countLayings_30
        refine tx_next h1 h7 hk hO (fun o' ho' => ?_)
        exact nm_r (nI_1 k) (hX post o' e (fun q => ho' (by omega)) (by omega) H)
      · obtain ⟨e, rfl⟩ : ∃ q, e = q + 1 := ⟨e - 1, by omega⟩
        rcases hm with ⟨_, q⟩ | ⟨rfl, _, hO⟩
        · omega
        · refine br_f (nI_ge (b := 5040) (by omega) (by omega)) (br_f tg_10 ?_)
          refine ty_ly h7 hg hh hO hp (fun z => absurd z L) (fun _ => ?_)
          refine br_t rfl ?_
          unfold wY_count_37
          refine ty_next h1 h7 hk hO (fun q o' ho' => ?_) (fun q o' => ?_)
          · exact nm_r (nI_1 k) (hY post o' 1 e (Or.inr ⟨rfl, by omega, ho'⟩) (by omega) H)
          · exact nm_r (nI_1 k) (hY post o' 0 e (Or.inl ⟨rfl, by omega⟩) (by omega) H)
theorem tm_laid {c : Nat → Int32} {n a : Nat} (h1 : 1 ≤ n) (h7 : n ≤ 7) (ha : a < n) : ∀ d k, k + d = tg_fac n → ∃ r : Int32,
    (∀ (post : Int32 → SX → Prop) o e, (0 < d → tg_O n (tg_un n k) o) → d < e → (∀ o', post r (nI n, nI (tg_fac n), c, o')) → wX_laid_16 post (nI a) e (nI k) (nI n) (nI (tg_fac n)) c o) ∧
    (∀ (post : Int32 → SY → Prop) o m e, (m = 0 ∧ d = 0) ∨ (m = 1 ∧ 0 < d ∧ tg_O n (tg_un n k) o) → d < e → (∀ o', post r (nI n, c, o')) → wY_laid_18 post (nI a) e m (nI k) (nI n) c o) := by
  have hF := tg_fac_in n (by omega)
  intro d
  induction d with
  | zero =>
    intro k hd
    refine ⟨-1, fun post o e hO he H => ?_, fun post o m e hm he H => ?_⟩
    · obtain ⟨e, rfl⟩ : ∃ q, e = q + 1 := ⟨e - 1, by omega⟩
      exact br_t (nI_le (by omega) (by omega)) (H o)
    · obtain ⟨e, rfl⟩ : ∃ q, e = q + 1 := ⟨e - 1, by omega⟩
      rcases hm with ⟨rfl, _⟩ | ⟨_, q, _⟩
      · exact br_c (fun _ => H o) (fun _ => br_t rfl (H o))
      · omega
  | succ d ih =>
    intro k hd
    have hk : k < tg_fac n := by omega
    have hp := tg_hp h1 h7 hk
    by_cases L : tg_LY c (tg_un n k) n 0 1
    · refine ⟨nI (tg_un n k a), fun post o e hO he H => ?_, fun post o m e hm he H => ?_⟩
      · obtain ⟨e, rfl⟩ : ∃ q, e = q + 1 := ⟨e - 1, by omega⟩
        have hO := hO (by omega)
        have e1 : o (nI a).toNatClampNeg = nI (tg_un n k a) := by rw [nI_clamp (by omega)]; exact hO a ha
        refine br_f (nI_ge hk (by omega)) ?_
        refine tx_ly (g := 0) (h := 1) h7 (by omega) (by omega) hO hp (fun _ => ?_) (fun z => absurd L z)
        refine br_f tg_10 ⟨vp_in_nI (by omega) (by omega), ?_⟩
        rw [e1]
        exact H o
      · obtain ⟨e, rfl⟩ : ∃ q, e = q + 1 := ⟨e - 1, by omega⟩
        rcases hm with ⟨_, q⟩ | ⟨rfl, _, hO⟩
        · omega
        · have e1 : o (nI a).toNatClampNeg = nI (tg_un n k a) := by rw [nI_clamp (by omega)]; exact hO a ha
          refine br_f (nI_ge (b := 5040) (by omega) (by omega)) (br_f tg_10 ?_)
          refine ty_ly (g := 0) (h := 1) h7 (by omega) (by omega) hO hp (fun _ => ?_) (fun z => absurd L z)
          refine br_f tg_10 ⟨vp_in_nI (by omega) (by omega), ?_⟩
          rw [e1]
          exact H o
    · obtain ⟨r, hX, hY⟩ := ih (k + 1) (by omega)
      refine ⟨r, fun post o e hO he H => ?_, fun post o m e hm he H => ?_⟩
      · obtain ⟨e, rfl⟩ : ∃ q, e = q + 1 := ⟨e - 1, by omega⟩
        have hO := hO (by omega)
        refine br_f (nI_ge hk (by omega)) ?_
        refine tx_ly (g := 0) (h := 1) h7 (by omega) (by omega) hO hp (fun z => absurd z L) (fun _ => ?_)
        refine br_t rfl ?_
        refine tx_next h1 h7 hk hO (fun o' ho' => ?_)
        exact nm_r (nI_1 k) (hX post o' e (fun q => ho' (by omega)) (by omega) H)
      · obtain ⟨e, rfl⟩ : ∃ q, e = q + 1 := ⟨e - 1, by omega⟩
        rcases hm with ⟨_, q⟩ | ⟨rfl, _, hO⟩
        · omega
        · refine br_f (nI_ge (b := 5040) (by omega) (by omega)) (br_f tg_10 ?_)
          refine ty_ly (g := 0) (h := 1) h7 (by omega) (by omega) hO hp (fun z => absurd z L) (fun _ => ?_)
          refine br_t rfl ?_
          refine ty_next h1 h7 hk hO (fun q o' ho' => ?_) (fun q o' => ?_)
          · exact nm_r (nI_1 k) (hY post o' 1 e (Or.inr ⟨rfl, by omega, ho'⟩) (by omega) H)
          · exact nm_r (nI_1 k) (hY post o' 0 e (Or.inl ⟨rfl, by omega⟩) (by omega) H)
theorem tm_can {c : Nat → Int32} {n a a' : Nat} {b b' : Int32} (h1 : 1 ≤ n) (h7 : n ≤ 7) (ha : a < n) (ha' : a' < n) : ∀ d k, k + d = tg_fac n → ∃ r : Int32,
    (∀ (post : Int32 → SX → Prop) o e, (0 < d → tg_O n (tg_un n k) o) → d < e → (∀ o', post r (nI n, nI (tg_fac n), c, o')) → wX_canLay_42 post (nI a) b (nI a') b' e (nI k) (nI n) (nI (tg_fac n)) c o) ∧
    (∀ (post : Int32 → SY → Prop) o m e, (m = 0 ∧ d = 0) ∨ (m = 1 ∧ 0 < d ∧ tg_O n (tg_un n k) o) → d < e → (∀ o', post r (nI n, c, o')) → wY_canLay_45 post (nI a) b (nI a') b' e m (nI k) (nI n) c o) := by
  have hF := tg_fac_in n (by omega)
  have va : vp_in (nI a) 7 := vp_in_nI (by omega) (by omega)
  have va' : vp_in (nI a') 7 := vp_in_nI (by omega) (by omega)
  intro d
  induction d with
  | zero =>
    intro k hd
    refine ⟨0, fun post o e hO he H => ?_, fun post o m e hm he H => ?_⟩
    · obtain ⟨e, rfl⟩ : ∃ q, e = q + 1 := ⟨e - 1, by omega⟩
      exact br_t (nI_le (by omega) (by omega)) (H o)
    · obtain ⟨e, rfl⟩ : ∃ q, e = q + 1 := ⟨e - 1, by omega⟩
      rcases hm with ⟨rfl, _⟩ | ⟨_, q, _⟩
      · exact br_c (fun _ => H o) (fun _ => br_t rfl (H o))
      · omega
  | succ d ih =>
    intro k hd
    have hk : k < tg_fac n := by omega
    have hp := tg_hp h1 h7 hk
    by_cases Q : nI (tg_un n k a) = b ∧ nI (tg_un n k a') = b' ∧ tg_LY c (tg_un n k) n 0 1
    · obtain ⟨q1, q2, L⟩ := Q
      refine ⟨1, fun post o e hO he H => ?_, fun post o m e hm he H => ?_⟩
      · obtain ⟨e, rfl⟩ : ∃ q, e = q + 1 := ⟨e - 1, by omega⟩
        have hO := hO (by omega)
        have e1 : o (nI a).toNatClampNeg = nI (tg_un n k a) := by rw [nI_clamp (by omega)]; exact hO a ha
        have e2 : o (nI a').toNatClampNeg = nI (tg_un n k a') := by rw [nI_clamp (by omega)]; exact hO a' ha'
        refine br_f (nI_ge hk (by omega)) ⟨va, br_t (e1.trans q1) ⟨va', br_t (e2.trans q2) ?_⟩⟩
        refine tx_ly (g := 0) (h := 1) h7 (by omega) (by omega) hO hp (fun _ => ?_) (fun z => absurd L z)
        exact br_f tg_10 (H o)
      · obtain ⟨e, rfl⟩ : ∃ q, e = q + 1 := ⟨e - 1, by omega⟩
        rcases hm with ⟨_, q⟩ | ⟨rfl, _, hO⟩
        · omega
        · have e1 : o (nI a).toNatClampNeg = nI (tg_un n k a) := by rw [nI_clamp (by omega)]; exact hO a ha
          have e2 : o (nI a').toNatClampNeg = nI (tg_un n k a') := by rw [nI_clamp (by omega)]; exact hO a' ha'
          refine br_f (nI_ge (b := 5040) (by omega) (by omega)) (br_f tg_10 ⟨va, br_t (e1.trans q1) ⟨va', br_t (e2.trans q2) ?_⟩⟩)
          refine ty_ly (g := 0) (h := 1) h7 (by omega) (by omega) hO hp (fun _ => ?_) (fun z => absurd L z)
          exact br_f tg_10 (H o)
    · obtain ⟨r, hX, hY⟩ := ih (k + 1) (by omega)
      refine ⟨r, fun post o e hO he H => ?_, fun post o m e hm he H => ?_⟩
      · obtain ⟨e, rfl⟩ : ∃ q, e = q + 1 := ⟨e - 1, by omega⟩
        have hO := hO (by omega)
        have e1 : o (nI a).toNatClampNeg = nI (tg_un n k a) := by rw [nI_clamp (by omega)]; exact hO a ha
        have e2 : o (nI a').toNatClampNeg = nI (tg_un n k a') := by rw [nI_clamp (by omega)]; exact hO a' ha'
        have K : wX_canLay_83 post (wX_canLay_42 post (nI a) b (nI a') b' e) (nI a) b (nI a') b' (nI k) (nI n) (nI (tg_fac n)) c o := by
          unfold wX_canLay_83
          refine tx_next h1 h7 hk hO (fun o' ho' => ?_)
          exact nm_r (nI_1 k) (hX post o' e (fun q => ho' (by omega)) (by omega) H)
        refine br_f (nI_ge hk (by omega)) ⟨va, br_c (fun z1 => ⟨va', br_c (fun z2 => ?_) (fun _ => K)⟩) (fun _ => K)⟩
        refine tx_ly (g := 0) (h := 1) h7 (by omega) (by omega) hO hp (fun L => absurd ⟨e1.symm.trans z1, e2.symm.trans z2, L⟩ Q) (fun _ => ?_)
        exact br_t rfl K
      · obtain ⟨e, rfl⟩ : ∃ q, e = q + 1 := ⟨e - 1, by omega⟩
        rcases hm with ⟨_, q⟩ | ⟨rfl, _, hO⟩
        · omega
        · have e1 : o (nI a).toNatClampNeg = nI (tg_un n k a) := by rw [nI_clamp (by omega)]; exact hO a ha
          have e2 : o (nI a').toNatClampNeg = nI (tg_un n k a') := by rw [nI_clamp (by omega)]; exact hO a' ha'
          have K : wY_canLay_90 post (wY_canLay_45 post (nI a) b (nI a') b' e) (nI a) b (nI a') b' (nI k) (nI n) c o := by
            unfold wY_canLay_90
            refine ty_next h1 h7 hk hO (fun q o' ho' => ?_) (fun q o' => ?_)
            · exact nm_r (nI_1 k) (hY post o' 1 e (Or.inr ⟨rfl, by omega, ho'⟩) (by omega) H)
            · exact nm_r (nI_1 k) (hY post o' 0 e (Or.inl ⟨rfl, by omega⟩) (by omega) H)
          refine br_f (nI_ge (b := 5040) (by omega) (by omega)) (br_f tg_10 ⟨va, br_c (fun z1 => ⟨va', br_c (fun z2 => ?_) (fun _ => K)⟩) (fun _ => K)⟩)
          refine ty_ly (g := 0) (h := 1) h7 (by omega) (by omega) hO hp (fun L => absurd ⟨e1.symm.trans z1, e2.symm.trans z2, L⟩ Q) (fun _ => ?_)
          exact br_t rfl K
theorem tm_mir {c : Nat → Int32} {n g a : Nat} (h1 : 1 ≤ n) (h7 : n ≤ 7) (hg : g < 2) (ha : a < n) : ∀ d k s, k + d = tg_fac n → ∃ r : Int32,
    (∀ (post : Int32 → SX → Prop) o e, (0 < d → tg_O n (tg_un n k) o) → d < e → (∀ o', post r (nI n, nI (tg_fac n), c, o')) → wX_mirror_26 post (nI g) (nI a) e s (nI k) (nI n) (nI (tg_fac n)) c o) ∧
    (∀ (post : Int32 → SY → Prop) o m e, (m = 0 ∧ d = 0) ∨ (m = 1 ∧ 0 < d ∧ tg_O n (tg_un n k) o) → d < e → (∀ o', post r (nI n, c, o')) → wY_mirror_29 post (nI g) (nI a) e s m (nI k) (nI n) c o) := by
  have hF := tg_fac_in n (by omega)
  have va : vp_in (nI a) 7 := vp_in_nI (by omega) (by omega)
  intro d
  induction d with
  | zero =>
    intro k s hd
    refine ⟨s, fun post o e hO he H => ?_, fun post o m e hm he H => ?_⟩
    · obtain ⟨e, rfl⟩ : ∃ q, e = q + 1 := ⟨e - 1, by omega⟩
      exact br_t (nI_le (by omega) (by omega)) (H o)
    · obtain ⟨e, rfl⟩ : ∃ q, e = q + 1 := ⟨e - 1, by omega⟩
      rcases hm with ⟨rfl, _⟩ | ⟨_, q, _⟩
      · exact br_c (fun _ => H o) (fun _ => br_t rfl (H o))
      · omega
  | succ d ih =>
    intro k s hd
    have hk : k < tg_fac n := by omega
    have hp := tg_hp h1 h7 hk
    by_cases Q : ¬ s ≤ nI (tg_un n k a) ∧ tg_LY c (tg_un n k) n g g
    · obtain ⟨q1, L⟩ := Q
      obtain ⟨r, hX, hY⟩ := ih (k + 1) (nI (tg_un n k a)) (by omega)
      refine ⟨r, fun post o e hO he H => ?_, fun post o m e hm he H => ?_⟩
      · obtain ⟨e, rfl⟩ : ∃ q, e = q + 1 := ⟨e - 1, by omega⟩
        have hO := hO (by omega)
        have e1 : o (nI a).toNatClampNeg = nI (tg_un n k a) := by rw [nI_clamp (by omega)]; exact hO a ha
        refine br_f (nI_ge hk (by omega)) ⟨va, br_f (by rw [e1]; exact q1) ?_⟩
        refine tx_ly h7 hg hg hO hp (fun _ => ?_) (fun z => absurd L z)
        refine br_f tg_10 ⟨va, nm_r e1 ?_⟩
        unfold wX_mirror_61
        refine tx_next h1 h7 hk hO (fun o' ho' => ?_)
        exact nm_r (nI_1 k) (hX post o' e (fun q => ho' (by omega)) (by omega) H)
      · obtain ⟨e, rfl⟩ : ∃ q, e = q + 1 := ⟨e - 1, by omega⟩
        rcases hm with ⟨_, q⟩ | ⟨rfl, _, hO⟩
        · omega
        · have e1 : o (nI a).toNatClampNeg = nI (tg_un n k a) := by rw [nI_clamp (by omega)]; exact hO a ha
          refine br_f (nI_ge (b := 5040) (by omega) (by omega)) (br_f tg_10 ⟨va, br_f (by rw [e1]; exact q1) ?_⟩)
          refine ty_ly h7 hg hg hO hp (fun _ => ?_) (fun z => absurd L z)
          refine br_f tg_10 ⟨va, nm_r e1 ?_⟩
          unfold wY_mirror_68
          refine ty_next h1 h7 hk hO (fun q o' ho' => ?_) (fun q o' => ?_)
          · exact nm_r (nI_1 k) (hY post o' 1 e (Or.inr ⟨rfl, by omega, ho'⟩) (by omega) H)
          · exact nm_r (nI_1 k) (hY post o' 0 e (Or.inl ⟨rfl, by omega⟩) (by omega) H)
    · obtain ⟨r, hX, hY⟩ := ih (k + 1) s (by omega)
      refine ⟨r, fun post o e hO he H => ?_, fun post o m e hm he H => ?_⟩
      · obtain ⟨e, rfl⟩ : ∃ q, e = q + 1 := ⟨e - 1, by omega⟩
        have hO := hO (by omega)
        have e1 : o (nI a).toNatClampNeg = nI (tg_un n k a) := by rw [nI_clamp (by omega)]; exact hO a ha
        have K : wX_mirror_61 post (wX_mirror_26 post (nI g) (nI a) e) (nI g) (nI a) s (nI k) (nI n) (nI (tg_fac n)) c o := by
          unfold wX_mirror_61
          refine tx_next h1 h7 hk hO (fun o' ho' => ?_)
          exact nm_r (nI_1 k) (hX post o' e (fun q => ho' (by omega)) (by omega) H)
        refine br_f (nI_ge hk (by omega)) ⟨va, br_c (fun _ => K) (fun z1 => ?_)⟩
        rw [e1] at z1
        refine tx_ly h7 hg hg hO hp (fun L => absurd ⟨z1, L⟩ Q) (fun _ => ?_)
        exact br_t rfl K
      · obtain ⟨e, rfl⟩ : ∃ q, e = q + 1 := ⟨e - 1, by omega⟩
        rcases hm with ⟨_, q⟩ | ⟨rfl, _, hO⟩
        · omega
        · have e1 : o (nI a).toNatClampNeg = nI (tg_un n k a) := by rw [nI_clamp (by omega)]; exact hO a ha
          have K : wY_mirror_68 post (wY_mirror_29 post (nI g) (nI a) e) (nI g) (nI a) s (nI k) (nI n) c o := by
            unfold wY_mirror_68
            refine ty_next h1 h7 hk hO (fun q o' ho' => ?_) (fun q o' => ?_)
            · exact nm_r (nI_1 k) (hY post o' 1 e (Or.inr ⟨rfl, by omega, ho'⟩) (by omega) H)
            · exact nm_r (nI_1 k) (hY post o' 0 e (Or.inl ⟨rfl, by omega⟩) (by omega) H)
          refine br_f (nI_ge (b := 5040) (by omega) (by omega)) (br_f tg_10 ⟨va, br_c (fun _ => K) (fun z1 => ?_)⟩)
          rw [e1] at z1
          refine ty_ly h7 hg hg hO hp (fun L => absurd ⟨z1, L⟩ Q) (fun _ => ?_)
          exact br_t rfl K
/-- the class's loop tries order k + 1 at its head, the reference has tried it already -/
theorem tm_form {c : Nat → Int32} {n g : Nat} (h1 : 1 ≤ n) (h7 : n ≤ 7) (hg : g < 2) : ∀ d k (s : Int64), k + 1 + d = tg_fac n → ∃ r : Int64,
    (∀ (post : Int64 → SX → Prop) o e, tg_O n (tg_un n k) o → d < e → (∀ o', post r (nI n, nI (tg_fac n), c, o')) → wX_leastForm_24 post (nI g) e s (nI (k + 1)) (nI n) (nI (tg_fac n)) c o) ∧
    (∀ (post : Int64 → SY → Prop) o m e, (m = 0 ∧ d = 0) ∨ (m = 1 ∧ 0 < d ∧ tg_O n (tg_un n (k + 1)) o) → d < e → (∀ o', post r (nI n, c, o')) → wY_leastForm_30 post (nI g) e s m (nI k) (nI n) c o) := by
  have hF := tg_fac_in n (by omega)
  intro d
  induction d with
  | zero =>
    intro k s hd
    refine ⟨s, fun post o e hO he H => ?_, fun post o m e hm he H => ?_⟩
    · obtain ⟨e, rfl⟩ : ∃ q, e = q + 1 := ⟨e - 1, by omega⟩
      exact br_t (nI_le (by omega) (by omega)) (H o)
    · obtain ⟨e, rfl⟩ : ∃ q, e = q + 1 := ⟨e - 1, by omega⟩
      rcases hm with ⟨rfl, _⟩ | ⟨_, q, _⟩
      · exact br_c (fun _ => H o) (fun _ => br_t rfl (H o))
      · omega
  | succ d ih =>
    intro k s hd
    have hk : k < tg_fac n := by omega
    have hk1 : k + 1 < tg_fac n := by omega
    have hp := tg_hp h1 h7 hk1
    by_cases Q : s ≤ tg_fo c (tg_un n (k + 1)) g n 0 0
    · obtain ⟨r, hX, hY⟩ := ih (k + 1) s (by omega)
      refine ⟨r, fun post o e hO he H => ?_, fun post o m e hm he H => ?_⟩
      · obtain ⟨e, rfl⟩ : ∃ q, e = q + 1 := ⟨e - 1, by omega⟩
        refine br_f (nI_ge hk1 (by omega)) ?_
        refine tx_next h1 h7 hk hO (fun o' ho' => ?_)
        refine tx_fo h7 hg (ho' hk1) hp ?_
        exact br_t Q (nm_r (nI_1 (k + 1)) (hX post o' e (ho' hk1) (by omega) H))
      · obtain ⟨e, rfl⟩ : ∃ q, e = q + 1 := ⟨e - 1, by omega⟩
        rcases hm with ⟨_, q⟩ | ⟨rfl, _, hO⟩
        · omega
        · refine br_f (nI_ge (b := 5040) (by omega) (by omega)) (br_f tg_10 ?_)
          refine ty_fo h7 hg hO hp ?_
          refine br_t Q ?_
          unfold wY_leastForm_60
          refine ty_next h1 h7 hk1 hO (fun q o' ho' => ?_) (fun q o' => ?_)
          · exact nm_r (nI_1 k) (hY post o' 1 e (Or.inr ⟨rfl, by omega, ho'⟩) (by omega) H)
          · exact nm_r (nI_1 k) (hY post o' 0 e (Or.inl ⟨rfl, by omega⟩) (by omega) H)
    · obtain ⟨r, hX, hY⟩ := ih (k + 1) (tg_fo c (tg_un n (k + 1)) g n 0 0) (by omega)
      refine ⟨r, fun post o e hO he H => ?_, fun post o m e hm he H => ?_⟩
      · obtain ⟨e, rfl⟩ : ∃ q, e = q + 1 := ⟨e - 1, by omega⟩
        refine br_f (nI_ge hk1 (by omega)) ?_
        refine tx_next h1 h7 hk hO (fun o' ho' => ?_)
        refine tx_fo h7 hg (ho' hk1) hp ?_
        exact br_f Q (nm_r (nI_1 (k + 1)) (hX post o' e (ho' hk1) (by omega) H))
      · obtain ⟨e, rfl⟩ : ∃ q, e = q + 1 := ⟨e - 1, by omega⟩
        rcases hm with ⟨_, q⟩ | ⟨rfl, _, hO⟩
        · omega
        · refine br_f (nI_ge (b := 5040) (by omega) (by omega)) (br_f tg_10 ?_)
          refine ty_fo h7 hg hO hp ?_
          refine br_f Q ?_
          unfold wY_leastForm_60
          refine ty_next h1 h7 hk1 hO (fun q o' ho' => ?_) (fun q o' => ?_)
          · exact nm_r (nI_1 k) (hY post o' 1 e (Or.inr ⟨rfl, by omega, ho'⟩) (by omega) H)
          · exact nm_r (nI_1 k) (hY post o' 0 e (Or.inl ⟨rfl, by omega⟩) (by omega) H)
end
section
/-! 07: what is owed (heads: claim/defs.txt) -/
def i_Rel (k : Nat) (u : SX) (v : SY) : Prop := ∃ (n : Nat) (c o o' : Nat → Int32), 1 ≤ n ∧ n ≤ 7 ∧ tg_Sy n c ∧ u = (nI n, nI (tg_fac n), c, o) ∧ v = (nI n, c, o')
theorem i_up {k : Nat} {u : SX} {v : SY} (h : i_Rel k u v) : i_Rel (k + 5) u v := h
theorem tg_Rl {k n : Nat} {c o o' : Nat → Int32} (h1 : 1 ≤ n) (h7 : n ≤ 7) (hc : tg_Sy n c) : i_Rel k (nI n, nI (tg_fac n), c, o) (nI n, c, o') := ⟨n, c, o, o', h1, h7, hc, rfl, rfl⟩
theorem tg_ini {n : Nat} (h1 : 1 ≤ n) (h7 : n ≤ 7) : i_Rel 1 (nI n, nI (tg_fac n), (fun _ => 0), (fun _ => 0)) (nI n, (fun _ => 0), (fun _ => 0)) := tg_Rl h1 h7 (fun _ _ _ _ _ _ => rfl)
theorem tg_trip (g a b : Int32) {n : Nat} (hn : n ≤ 7) :
    (∃ G A B : Nat, G < 2 ∧ A < n ∧ B < n ∧ g = nI G ∧ a = nI A ∧ b = nI B) ∨ (¬ g = 0 ∧ ¬ g = 1) ∨
    (∃ G : Nat, G < 2 ∧ g = nI G ∧ (a < 0 ∨ (¬ a < 0 ∧ ¬ a < nI n))) ∨
    (∃ G A : Nat, G < 2 ∧ A < n ∧ g = nI G ∧ a = nI A ∧ (b < 0 ∨ (¬ b < 0 ∧ ¬ b < nI n))) := by
  rcases tg_gr g with ⟨G, hG, eG⟩ | z
  · rcases tg_pt a (n := n) (by omega) with ⟨A, hA, eA⟩ | z
    · rcases tg_pt b (n := n) (by omega) with ⟨B, hB, eB⟩ | z
      · exact Or.inl ⟨G, A, B, hG, hA, hB, eG, eA, eB⟩
      · exact Or.inr (Or.inr (Or.inr ⟨G, A, hG, hA, eG, eA, z⟩))
    · exact Or.inr (Or.inr (Or.inl ⟨G, hG, eG, z⟩))
  · exact Or.inr (Or.inl z)
theorem i_vc0 (k0 : Int32) : wpX_init (fun u => wpY_init (fun v => i_Rel 1 u v) k0) k0 := by
  by_cases a : (1 : Int32) ≤ k0
  · by_cases b : k0 ≤ 7
    · have hp : ¬ k0 < 0 := by
        intro z
        rw [Int32.lt_iff_toInt_lt] at z
        rw [Int32.le_iff_toInt_le] at a
        have e1 : (1 : Int32).toInt = 1 := by decide
        have e0 : (0 : Int32).toInt = 0 := by decide
        omega
      obtain ⟨n, hn, rfl⟩ := nI_of2 (n := 7) (by decide) hp b
      have a' : nI 1 ≤ nI n := a
      have h1 : 1 ≤ n := (nI_leI (by omega) (by omega)).mp a'
      refine br_t a (br_t b ?_)
      unfold wX_init_38
      refine tx_fac h1 hn ?_
      exact br_t a (br_t b (tg_ini h1 hn))
    · refine br_t a (br_f b ?_)
      unfold wX_init_38
      refine tx_fac (n := 7) (by omega) (by omega) ?_
      exact br_t a (br_f b (tg_ini (n := 7) (by omega) (by omega)))
  · refine br_f a (br_t (by decide) ?_)
    unfold wX_init_38
    refine tx_fac (n := 1) (by omega) (by omega) ?_
    exact br_f a (tg_ini (n := 1) (by omega) (by omega))
theorem i_vc_paint {k : Nat} {u : SX} {v : SY} (I : i_Rel k u v) (hk : k + 5 ≤ 2561) (v1 : Int32) (v2 : Int32) (v3 : Int32) (v4 : Int32) : wpX_paint (fun r u' => wpY_paint (fun r' v' => r' = r ∧ i_Rel (k + 5) u' v') v v1 v2 v3 v4) u v1 v2 v3 v4 := by
  obtain ⟨n, c, o, o', h1, h7, hc, rfl, rfl⟩ := I
  rcases tg_trip v1 v2 v3 h7 with ⟨G, A, B, hG, hA, hB, rfl, rfl, rfl⟩ | z | ⟨G, hG, rfl, z⟩ | ⟨G, A, hG, hA, rfl, rfl, z⟩
  · unfold wpX_paint wpX_isPair
    dsimp only
    refine tx_gt hG (br_f tg_10 ?_)
    refine tx_pt h7 hA (br_f tg_10 ?_)
    refine tx_pt h7 hB (br_f tg_10 ?_)
    refine br_f tg_10 ?_
    refine tx_pl G A B rfl rfl rfl ?_
    refine ⟨vp_in_nI (by omega) (by omega), nm_r (congrArg c (nI_clamp (by omega))) ?_⟩
    refine tx_set h7 hG hA hB ?_
    dsimp only
    unfold wpY_paint
    dsimp only
    refine ty_gt hG (br_f tg_10 ?_)
    refine ty_pt h7 hA (br_f tg_10 ?_)
    refine ty_pt h7 hB (br_f tg_10 ?_)
    refine ty_at G A B rfl rfl rfl (by omega) ?_
    refine ty_set h7 hG hA hB ?_
    exact ⟨rfl, tg_Rl h1 h7 (tg_Sy_p h7 hc hA hB)⟩
  · unfold wpX_paint wpX_isPair
    dsimp only
    refine tx_gf z (br_t rfl ?_)
    refine br_t rfl ?_
    unfold wpY_paint
    dsimp only
    exact ty_gf z (br_t rfl ⟨rfl, tg_Rl h1 h7 hc⟩)
  · unfold wpX_paint wpX_isPair
    dsimp only
    refine tx_gt hG (br_f tg_10 ?_)
    refine tx_pf z (br_t rfl ?_)
    refine br_t rfl ?_
    unfold wpY_paint
    dsimp only
    refine ty_gt hG (br_f tg_10 ?_)
    exact ty_pf z (br_t rfl ⟨rfl, tg_Rl h1 h7 hc⟩)
  · unfold wpX_paint wpX_isPair
    dsimp only
    refine tx_gt hG (br_f tg_10 ?_)
    refine tx_pt h7 hA (br_f tg_10 ?_)
    refine tx_pf z (br_t rfl ?_)
    refine br_t rfl ?_
    unfold wpY_paint
    dsimp only
    refine ty_gt hG (br_f tg_10 ?_)
    refine ty_pt h7 hA (br_f tg_10 ?_)
    exact ty_pf z (br_t rfl ⟨rfl, tg_Rl h1 h7 hc⟩)
theorem i_vc_colour {k : Nat} {u : SX} {v : SY} (I : i_Rel k u v) (hk : k + 5 ≤ 2561) (v1 : Int32) (v2 : Int32) (v3 : Int32) : wpX_colour (fun r => wpY_colour (fun r' => r' = r ∧ i_Rel (k + 5) u v) v v1 v2 v3) u v1 v2 v3 := by
  obtain ⟨n, c, o, o', h1, h7, hc, rfl, rfl⟩ := I
  rcases tg_trip v1 v2 v3 h7 with ⟨G, A, B, hG, hA, hB, rfl, rfl, rfl⟩ | z | ⟨G, hG, rfl, z⟩ | ⟨G, A, hG, hA, rfl, rfl, z⟩
  · unfold wpX_colour wpX_isPair
    dsimp only
    refine tx_gt hG (br_f tg_10 ?_)
    refine tx_pt h7 hA (br_f tg_10 ?_)
    refine tx_pt h7 hB (br_f tg_10 ?_)
    refine br_f tg_10 ?_
    refine tx_pl G A B rfl rfl rfl ?_
    refine ⟨vp_in_nI (by omega) (by omega), ?_⟩
    rw [nI_clamp (by omega)]
    unfold wpY_colour
    dsimp only
    refine ty_gt hG (br_f tg_10 ?_)
    refine ty_pt h7 hA (br_f tg_10 ?_)
    refine ty_pt h7 hB (br_f tg_10 ?_)
    refine ty_at G A B rfl rfl rfl (by omega) ?_
    exact ⟨rfl, tg_Rl h1 h7 hc⟩
  · unfold wpX_colour wpX_isPair
    dsimp only
    refine tx_gf z (br_t rfl ?_)
    refine br_t rfl ?_
    unfold wpY_colour
    dsimp only
    exact ty_gf z (br_t rfl ⟨rfl, tg_Rl h1 h7 hc⟩)
  · unfold wpX_colour wpX_isPair
    dsimp only
    refine tx_gt hG (br_f tg_10 ?_)
    refine tx_pf z (br_t rfl ?_)
    refine br_t rfl ?_
    unfold wpY_colour
    dsimp only
    refine ty_gt hG (br_f tg_10 ?_)
    exact ty_pf z (br_t rfl ⟨rfl, tg_Rl h1 h7 hc⟩)
  · unfold wpX_colour wpX_isPair
    dsimp only
    refine tx_gt hG (br_f tg_10 ?_)
    refine tx_pt h7 hA (br_f tg_10 ?_)
    refine tx_pf z (br_t rfl ?_)
    refine br_t rfl ?_
    unfold wpY_colour
    dsimp only
    refine ty_gt hG (br_f tg_10 ?_)
    refine ty_pt h7 hA (br_f tg_10 ?_)
    exact ty_pf z (br_t rfl ⟨rfl, tg_Rl h1 h7 hc⟩)
theorem i_vc_copySwapped {k : Nat} {u : SX} {v : SY} (I : i_Rel k u v) (hk : k + 5 ≤ 2561) (v1 : Int32) (v2 : Int32) (v3 : Int32) : wpX_copySwapped (fun r u' => wpY_copySwapped (fun r' v' => r' = r ∧ i_Rel (k + 5) u' v') v v1 v2 v3) u v1 v2 v3 := by
  obtain ⟨n, c, o, o', h1, h7, hc, rfl, rfl⟩ := I
  rcases tg_trip v1 v2 v3 h7 with ⟨G, A, B, hG, hA, hB, rfl, rfl, rfl⟩ | z | ⟨G, hG, rfl, z⟩ | ⟨G, A, hG, hA, rfl, rfl, z⟩
  · refine tx_cs h7 hG hA hB hc (fun f o1 hf => ?_)
    refine ty_cs h7 hG hA hB (fun f' hf' => ?_)
    have hD : ∀ x y, x < n → y < n → tg_DX n 0 x y := fun x y hx hy => Or.inl ⟨hx, hy⟩
    have hD' : ∀ x y, x < n → y < n → tg_DY n 0 x y := fun x y hx hy => Or.inl hx
    have ef : f' = f := tg_CK_eq hf' hf hD' hD
    rw [ef]
    exact ⟨rfl, tg_Rl h1 h7 (tg_CK_s h7 (tg_sw_lt (fun x hx => hx) hA hB) hc hf hD)⟩
  · unfold wpX_copySwapped wpX_isPair
    dsimp only
    refine tx_gf z (br_t rfl ?_)
    refine br_t rfl ?_
    unfold wpY_copySwapped
    dsimp only
    exact ty_gf z (br_t rfl ⟨rfl, tg_Rl h1 h7 hc⟩)
  · unfold wpX_copySwapped wpX_isPair
    dsimp only
    refine tx_gt hG (br_f tg_10 ?_)
    refine tx_pf z (br_t rfl ?_)
    refine br_t rfl ?_
    unfold wpY_copySwapped
    dsimp only
    refine ty_gt hG (br_f tg_10 ?_)
    exact ty_pf z (br_t rfl ⟨rfl, tg_Rl h1 h7 hc⟩)
  · unfold wpX_copySwapped wpX_isPair
    dsimp only
    refine tx_gt hG (br_f tg_10 ?_)
    refine tx_pt h7 hA (br_f tg_10 ?_)
    refine tx_pf z (br_t rfl ?_)
    refine br_t rfl ?_
    unfold wpY_copySwapped
    dsimp only
    refine ty_gt hG (br_f tg_10 ?_)
    refine ty_pt h7 hA (br_f tg_10 ?_)
    exact ty_pf z (br_t rfl ⟨rfl, tg_Rl h1 h7 hc⟩)
theorem i_vc_layings {k : Nat} {u : SX} {v : SY} (I : i_Rel k u v) (hk : k + 5 ≤ 2561) : wpX_layings (fun r u' => wpY_layings (fun r' v' => r' = r ∧ i_Rel (k + 5) u' v') v) u := by
  obtain ⟨n, c, o, o', h1, h7, hc, rfl, rfl⟩ := I
  have hF := tg_fac_in n (by omega)
  obtain ⟨r, hX, hY⟩ := tm_count (c := c) (g := 0) (h := 1) h1 h7 (by omega) (by omega) (tg_fac n) 0 0 (by omega)
  unfold wpX_layings
  dsimp only
  unfold wpX_countLayings
  dsimp only
  refine tx_st h1 h7 (fun o1 ho1 => ?_)
  refine ⟨tg_fac n + 1, hX _ o1 (tg_fac n + 1) (fun _ => ho1) (by omega) (fun o2 => ?_)⟩
  dsimp only
  unfold wpY_layings
  dsimp only
  unfold wpY_count
  dsimp only
  refine ty_st h7 (fun o3 ho3 => ?_)
  exact ⟨tg_fac n + 1, hY _ o3 1 (tg_fac n + 1) (Or.inr ⟨rfl, by omega, ho3⟩) (by omega) (fun o4 => ⟨rfl, tg_Rl h1 h7 hc⟩)⟩
theorem i_vc_symmetries {k : Nat} {u : SX} {v : SY} (I : i_Rel k u v) (hk : k + 5 ≤ 2561) (v1 : Int32) : wpX_symmetries (fun r u' => wpY_symmetries (fun r' v' => r' = r ∧ i_Rel (k + 5) u' v') v v1) u v1 := by
  obtain ⟨n, c, o, o', h1, h7, hc, rfl, rfl⟩ := I
  have hF := tg_fac_in n (by omega)
  rcases tg_gr v1 with ⟨G, hG, rfl⟩ | z
  · obtain ⟨r, hX, hY⟩ := tm_count (c := c) (g := G) (h := G) h1 h7 hG hG (tg_fac n) 0 0 (by omega)
    unfold wpX_symmetries
    dsimp only
    refine tx_gt hG (br_f tg_10 ?_)
    unfold wpX_countLayings
    dsimp only
    refine tx_st h1 h7 (fun o1 ho1 => ?_)
    refine ⟨tg_fac n + 1, hX _ o1 (tg_fac n + 1) (fun _ => ho1) (by omega) (fun o2 => ?_)⟩
    dsimp only
    unfold wpY_symmetries
    dsimp only
    refine ty_gt hG (br_f tg_10 ?_)
    unfold wpY_count
    dsimp only
    refine ty_st h7 (fun o3 ho3 => ?_)
    exact ⟨tg_fac n + 1, hY _ o3 1 (tg_fac n + 1) (Or.inr ⟨rfl, by omega, ho3⟩) (by omega) (fun o4 => ⟨rfl, tg_Rl h1 h7 hc⟩)⟩
  · unfold wpX_symmetries
    dsimp only
    refine tx_gf z (br_t rfl ?_)
    unfold wpY_symmetries
    dsimp only
    exact ty_gf z (br_t rfl ⟨rfl, tg_Rl h1 h7 hc⟩)
theorem i_vc_laid {k : Nat} {u : SX} {v : SY} (I : i_Rel k u v) (hk : k + 5 ≤ 2561) (v1 : Int32) : wpX_laid (fun r u' => wpY_laid (fun r' v' => r' = r ∧ i_Rel (k + 5) u' v') v v1) u v1 := by
  obtain ⟨n, c, o, o', h1, h7, hc, rfl, rfl⟩ := I
  have hF := tg_fac_in n (by omega)
  rcases tg_pt v1 (n := n) (by omega) with ⟨A, hA, rfl⟩ | z
  · obtain ⟨r, hX, hY⟩ := tm_laid (c := c) h1 h7 hA (tg_fac n) 0 (by omega)
    unfold wpX_laid
    dsimp only
    refine tx_pt h7 hA (br_f tg_10 ?_)
    refine tx_st h1 h7 (fun o1 ho1 => ?_)
    refine ⟨tg_fac n + 1, hX _ o1 (tg_fac n + 1) (fun _ => ho1) (by omega) (fun o2 => ?_)⟩
    unfold wpY_laid
    dsimp only
    refine ty_pt h7 hA (br_f tg_10 ?_)
    refine ty_st h7 (fun o3 ho3 => ?_)
    exact ⟨tg_fac n + 1, hY _ o3 1 (tg_fac n + 1) (Or.inr ⟨rfl, by omega, ho3⟩) (by omega) (fun o4 => ⟨rfl, tg_Rl h1 h7 hc⟩)⟩
  · unfold wpX_laid
    dsimp only
    refine tx_pf z (br_t rfl ?_)
    unfold wpY_laid
    dsimp only
    exact ty_pf z (br_t rfl ⟨rfl, tg_Rl h1 h7 hc⟩)
theorem i_vc_mirror {k : Nat} {u : SX} {v : SY} (I : i_Rel k u v) (hk : k + 5 ≤ 2561) (v1 : Int32) (v2 : Int32) : wpX_mirror (fun r u' => wpY_mirror (fun r' v' => r' = r ∧ i_Rel (k + 5) u' v') v v1 v2) u v1 v2 := by
  obtain ⟨n, c, o, o', h1, h7, hc, rfl, rfl⟩ := I
  have hF := tg_fac_in n (by omega)
  rcases tg_gr v1 with ⟨G, hG, rfl⟩ | z
  · rcases tg_pt v2 (n := n) (by omega) with ⟨A, hA, rfl⟩ | z
    · obtain ⟨r, hX, hY⟩ := tm_mir (c := c) h1 h7 hG hA (tg_fac n) 0 (nI A) (by omega)
      unfold wpX_mirror
      dsimp only
      refine tx_gt hG (br_f tg_10 ?_)
      refine tx_pt h7 hA (br_f tg_10 ?_)
      refine tx_st h1 h7 (fun o1 ho1 => ?_)
      refine ⟨tg_fac n + 1, hX _ o1 (tg_fac n + 1) (fun _ => ho1) (by omega) (fun o2 => ?_)⟩
      unfold wpY_mirror
      dsimp only
      refine ty_gt hG (br_f tg_10 ?_)
      refine ty_pt h7 hA (br_f tg_10 ?_)
      refine ty_st h7 (fun o3 ho3 => ?_)
      exact ⟨tg_fac n + 1, hY _ o3 1 (tg_fac n + 1) (Or.inr ⟨rfl, by omega, ho3⟩) (by omega) (fun o4 => ⟨rfl, tg_Rl h1 h7 hc⟩)⟩
    · unfold wpX_mirror
      dsimp only
      refine tx_gt hG (br_f tg_10 ?_)
      refine tx_pf z (br_t rfl ?_)
      unfold wpY_mirror
      dsimp only
      refine ty_gt hG (br_f tg_10 ?_)
      exact ty_pf z (br_t rfl ⟨rfl, tg_Rl h1 h7 hc⟩)
  · unfold wpX_mirror
    dsimp only
    refine tx_gf z (br_t rfl ?_)
    unfold wpY_mirror
    dsimp only
    exact ty_gf z (br_t rfl ⟨rfl, tg_Rl h1 h7 hc⟩)
theorem i_vc_leastForm {k : Nat} {u : SX} {v : SY} (I : i_Rel k u v) (hk : k + 5 ≤ 2561) (v1 : Int32) : wpX_leastForm (fun r u' => wpY_leastForm (fun r' v' => r' = r ∧ i_Rel (k + 5) u' v') v v1) u v1 := by
  obtain ⟨n, c, o, o', h1, h7, hc, rfl, rfl⟩ := I
  have hF := tg_fac_in n (by omega)
  rcases tg_gr v1 with ⟨G, hG, rfl⟩ | z
  · have h0 : 0 < tg_fac n := by omega
    have hp := tg_hp h1 h7 h0
    obtain ⟨r, hX, hY⟩ := tm_form (c := c) h1 h7 hG (tg_fac n - 1) 0 (tg_fo c (tg_un n 0) G n 0 0) (by omega)
    unfold wpX_leastForm
    dsimp only
    refine tx_gt hG (br_f tg_10 ?_)
    refine tx_st h1 h7 (fun o1 ho1 => ?_)
    refine tx_fo h7 hG ho1 hp ?_
    refine ⟨tg_fac n + 1, hX _ o1 (tg_fac n + 1) ho1 (by omega) (fun o2 => ?_)⟩
    unfold wpY_leastForm
    dsimp only
    refine ty_gt hG (br_f tg_10 ?_)
    refine ty_st h7 (fun o3 ho3 => ?_)
    refine ty_fo h7 hG ho3 hp ?_
    refine ty_next h1 h7 h0 ho3 (fun q o4 ho4 => ?_) (fun q o4 => ?_)
    · exact ⟨tg_fac n + 1, hY _ o4 1 (tg_fac n + 1) (Or.inr ⟨rfl, by omega, ho4⟩) (by omega) (fun o5 => ⟨rfl, tg_Rl h1 h7 hc⟩)⟩
    · exact ⟨tg_fac n + 1, hY _ o4 0 (tg_fac n + 1) (Or.inl ⟨rfl, by omega⟩) (by omega) (fun o5 => ⟨rfl, tg_Rl h1 h7 hc⟩)⟩
  · unfold wpX_leastForm
    dsimp only
    refine tx_gf z (br_t rfl ?_)
    unfold wpY_leastForm
    dsimp only
    exact ty_gf z (br_t rfl ⟨rfl, tg_Rl h1 h7 hc⟩)
theorem i_vc_canLay {k : Nat} {u : SX} {v : SY} (I : i_Rel k u v) (hk : k + 5 ≤ 2561) (v1 : Int32) (v2 : Int32) (v3 : Int32) (v4 : Int32) : wpX_canLay (fun r u' => wpY_canLay (fun r' v' => r' = r ∧ i_Rel (k + 5) u' v') v v1 v2 v3 v4) u v1 v2 v3 v4 := by
  obtain ⟨n, c, o, o', h1, h7, hc, rfl, rfl⟩ := I
  have hF := tg_fac_in n (by omega)
  rcases tg_pt v1 (n := n) (by omega) with ⟨A, hA, rfl⟩ | z
  · rcases tg_pt v2 (n := n) (by omega) with ⟨B, hB, rfl⟩ | z
    · rcases tg_pt v3 (n := n) (by omega) with ⟨C, hC, rfl⟩ | z
      · rcases tg_pt v4 (n := n) (by omega) with ⟨D, hD, rfl⟩ | z
        · obtain ⟨r, hX, hY⟩ := tm_can (c := c) (b := nI B) (b' := nI D) h1 h7 hA hC (tg_fac n) 0 (by omega)
          unfold wpX_canLay
          dsimp only
          refine tx_pt h7 hA (br_f tg_10 ?_)
          refine tx_pt h7 hB (br_f tg_10 ?_)
          refine tx_pt h7 hC (br_f tg_10 ?_)
          refine tx_pt h7 hD (br_f tg_10 ?_)
          refine tx_st h1 h7 (fun o1 ho1 => ?_)
          refine ⟨tg_fac n + 1, hX _ o1 (tg_fac n + 1) (fun _ => ho1) (by omega) (fun o2 => ?_)⟩
          unfold wpY_canLay
          dsimp only
          refine ty_pt h7 hA (br_f tg_10 ?_)
          refine ty_pt h7 hB (br_f tg_10 ?_)
          refine ty_pt h7 hC (br_f tg_10 ?_)
          refine ty_pt h7 hD (br_f tg_10 ?_)
          refine ty_st h7 (fun o3 ho3 => ?_)
          exact ⟨tg_fac n + 1, hY _ o3 1 (tg_fac n + 1) (Or.inr ⟨rfl, by omega, ho3⟩) (by omega) (fun o4 => ⟨rfl, tg_Rl h1 h7 hc⟩)⟩
        · unfold wpX_canLay
          dsimp only
          refine tx_pt h7 hA (br_f tg_10 ?_)
          refine tx_pt h7 hB (br_f tg_10 ?_)
          refine tx_pt h7 hC (br_f tg_10 ?_)
          refine tx_pf z (br_t rfl ?_)
          unfold wpY_canLay
          dsimp only
          refine ty_pt h7 hA (br_f tg_10 ?_)
          refine ty_pt h7 hB (br_f tg_10 ?_)
          refine ty_pt h7 hC (br_f tg_10 ?_)
          exact ty_pf z (br_t rfl ⟨rfl, tg_Rl h1 h7 hc⟩)
      · unfold wpX_canLay
        dsimp only
        refine tx_pt h7 hA (br_f tg_10 ?_)
        refine tx_pt h7 hB (br_f tg_10 ?_)
        refine tx_pf z (br_t rfl ?_)
        unfold wpY_canLay
        dsimp only
        refine ty_pt h7 hA (br_f tg_10 ?_)
        refine ty_pt h7 hB (br_f tg_10 ?_)
        exact ty_pf z (br_t rfl ⟨rfl, tg_Rl h1 h7 hc⟩)
    · unfold wpX_canLay
      dsimp only
      refine tx_pt h7 hA (br_f tg_10 ?_)
      refine tx_pf z (br_t rfl ?_)
      unfold wpY_canLay
      dsimp only
      refine ty_pt h7 hA (br_f tg_10 ?_)
      exact ty_pf z (br_t rfl ⟨rfl, tg_Rl h1 h7 hc⟩)
  · unfold wpX_canLay
    dsimp only
    refine tx_pf z (br_t rfl ?_)
    unfold wpY_canLay
    dsimp only
    exact ty_pf z (br_t rfl ⟨rfl, tg_Rl h1 h7 hc⟩)
end
