/-! 01: pure rows: the orders of n points, the step from one to the next, one check by the kernel (pk_ rows: pasted from kit/rows) -/
theorem pk_us {f : Nat → Int32} {k : Nat} {x : Int32} : upd f k x k = x := if_pos rfl
theorem pk_un {f : Nat → Int32} {k j : Nat} {x : Int32} (h : j ≠ k) : upd f k x j = f j := if_neg h
theorem pk_sub {a b : Nat} (h : b ≤ a) : nI a - nI b = nI (a - b) := by
  obtain ⟨c, rfl⟩ : ∃ c, a = c + b := ⟨a - b, by omega⟩
  rw [← nI_add, Int32.add_sub_cancel, Nat.add_sub_cancel]
theorem pk_m1 (n : Nat) : nI (n + 1) + (-1) = nI n := by
  rw [← nI_1, Int32.add_assoc, show (1 : Int32) + (-1) = 0 from rfl, Int32.add_zero]
theorem pk_mul (a b : Nat) : nI a * nI b = nI (a * b) := (Int32.ofNat_mul a b).symm
theorem pk_ix (x : Int32) {n : Nat} (hn : n < 2 ^ 31) : x < 0 ∨ nI n ≤ x ∨ ∃ j : Nat, j < n ∧ x = nI j := by
  by_cases h : x < 0
  · exact Or.inl h
  · obtain ⟨j, hj, rfl⟩ := nI_of h
    by_cases h2 : j < n
    · exact Or.inr (Or.inr ⟨j, h2, rfl⟩)
    · exact Or.inr (Or.inl (nI_le (by omega) hj))
theorem pk_le {x y : Int32} {A B : Prop} (a b : Nat) (f : a ≤ b → A) (g : b < a → B) (hx : x = nI a := by rfl) (hy : y = nI b := by rfl) (ha : a < 2 ^ 31 := by omega) (hb : b < 2 ^ 31 := by omega) : (x ≤ y → A) ∧ (¬ x ≤ y → B) := by
  subst hx hy
  rw [nI_leI ha hb]
  exact ⟨f, fun z => g (by omega)⟩
theorem pk_lt {x y : Int32} {A B : Prop} (a b : Nat) (f : a < b → A) (g : b ≤ a → B) (hx : x = nI a := by rfl) (hy : y = nI b := by rfl) (ha : a < 2 ^ 31 := by omega) (hb : b < 2 ^ 31 := by omega) : (x < y → A) ∧ (¬ x < y → B) := by
  subst hx hy
  rw [nI_ltI ha hb]
  exact ⟨f, fun z => g (by omega)⟩
theorem pk_eq {x y : Int32} {A B : Prop} (a b : Nat) (f : a = b → A) (g : a ≠ b → B) (hx : x = nI a := by rfl) (hy : y = nI b := by rfl) (ha : a < 2 ^ 31 := by omega) (hb : b < 2 ^ 31 := by omega) : (x = y → A) ∧ (¬ x = y → B) := by
  subst hx hy
  rw [nI_eq ha hb]
  exact ⟨f, g⟩
theorem pk_in {x : Int32} (n N : Nat) (h : n < N) (hx : x = nI n := by rfl) (hN : N < 2 ^ 31 := by omega) : vp_in x N := by
  subst hx
  exact vp_in_nI h hN
theorem pk_cl {x : Int32} (n : Nat) (hx : x = nI n := by rfl) (h : n < 2 ^ 31 := by omega) : x.toNatClampNeg = n := by
  subst hx
  exact nI_clamp h
/-- n! -/
def tg_fac : Nat → Nat
  | 0 => 1
  | n + 1 => (n + 1) * tg_fac n
def tg_at : List Nat → Nat → Nat
  | [], _ => 0
  | x :: _, 0 => x
  | _ :: l, i + 1 => tg_at l i
def tg_del : List Nat → Nat → List Nat
  | [], _ => []
  | _ :: l, 0 => l
  | x :: l, i + 1 => x :: tg_del l i
def tg_up : Nat → Nat → List Nat
  | 0, _ => []
  | d + 1, i => i :: tg_up d (i + 1)
def tg_unl : Nat → List Nat → Nat → List Nat
  | 0, _, _ => []
  | m + 1, l, k => tg_at l (k / tg_fac m) :: tg_unl m (tg_del l (k / tg_fac m)) (k % tg_fac m)
/-- the k-th order of n points, the least first -/
def tg_un (n k : Nat) : Nat → Nat := fun i => tg_at (tg_unl n (tg_up n 0) k) i
/-- the last rise among the first i + 1 places, plus 1; 0: none -/
def tg_rise (p : Nat → Nat) : Nat → Nat
  | 0 => 0
  | i + 1 => if p i < p (i + 1) then i + 1 else tg_rise p i
def tg_riseY (p : Nat → Nat) : Nat → Nat
  | 0 => 0
  | i + 1 => if p (i + 1) < p i then tg_riseY p i else i + 1
def tg_jX (p : Nat → Nat) (r : Nat) : Nat → Nat → Nat → Nat
  | 0, _, nx => nx
  | d + 1, i, nx => if p r < p i then tg_jX p r d (i + 1) i else tg_jX p r d (i + 1) nx
def tg_jY (p : Nat → Nat) (i : Nat) : Nat → Nat
  | 0 => i
  | d + 1 => if p (i + (d + 1)) < p i then tg_jY p i d else i + (d + 1)
def tg_sw (p : Nat → Nat) (i j : Nat) : Nat → Nat := fun x => if x = j then p i else if x = i then p j else p x
def tg_rev : Nat → (Nat → Nat) → Nat → Nat → Nat → Nat
  | 0, p, _, _ => p
  | d + 1, p, lo, hi => if lo < hi then tg_rev d (tg_sw p lo hi) (lo + 1) (hi - 1) else p
/-- the order behind p, whose last rise is at r - 1 -/
def tg_nx (n : Nat) (p : Nat → Nat) (r : Nat) : Nat → Nat := tg_rev 4 (tg_sw p (r - 1) (tg_jY p (r - 1) (n - r))) r (n - 1)
def tg_allB (f : Nat → Bool) : Nat → Bool
  | 0 => true
  | n + 1 => f n && tg_allB f n
theorem tg_allB_of {f : Nat → Bool} : ∀ n, tg_allB f n = true → ∀ i, i < n → f i = true := by
  intro n
  induction n with
  | zero => intro _ i hi; omega
  | succ n ih =>
    intro h i hi
    rw [tg_allB, Bool.and_eq_true] at h
    by_cases e : i = n
    · rw [e]; exact h.1
    · exact ih h.2 i (by omega)
def tg_ok (n F k : Nat) : Bool :=
  tg_allB (fun i => decide (tg_un n k i < n)) n &&
  (decide (tg_riseY (tg_un n k) (n - 1) = tg_rise (tg_un n k) (n - 1)) &&
  (if k + 1 < F then
    decide (0 < tg_rise (tg_un n k) (n - 1)) &&
    (decide (tg_jY (tg_un n k) (tg_rise (tg_un n k) (n - 1) - 1) (n - tg_rise (tg_un n k) (n - 1)) = tg_jX (tg_un n k) (tg_rise (tg_un n k) (n - 1) - 1) (n - tg_rise (tg_un n k) (n - 1) - 1) (tg_rise (tg_un n k) (n - 1) + 1) (tg_rise (tg_un n k) (n - 1))) &&
    tg_allB (fun i => decide (tg_nx n (tg_un n k) (tg_rise (tg_un n k) (n - 1)) i = tg_un n (k + 1) i)) n)
  else decide (tg_rise (tg_un n k) (n - 1) = 0)))
def tg_chk (n F : Nat) : Nat → Nat → Bool
  | 0, _ => true
  | d + 1, k => tg_ok n F k && tg_chk n F d (k + 1)
theorem tg_chk_ok {n F : Nat} : ∀ d k, tg_chk n F d k = true → ∀ j, k ≤ j → j < k + d → tg_ok n F j = true := by
  intro d
  induction d with
  | zero => intro k _ j h1 h2; omega
  | succ d ih =>
    intro k h j h1 h2
    rw [tg_chk, Bool.and_eq_true] at h
    by_cases e : j = k
    · rw [e]; exact h.1
    · exact ih (k + 1) h.2 j (by omega) (by omega)
theorem tg_k1 : tg_chk 1 1 1 0 = true := by decide +kernel
theorem tg_k2 : tg_chk 2 2 2 0 = true := by decide +kernel
theorem tg_k3 : tg_chk 3 6 6 0 = true := by decide +kernel
theorem tg_k4 : tg_chk 4 24 24 0 = true := by decide +kernel
theorem tg_k5 : tg_chk 5 120 120 0 = true := by decide +kernel
theorem tg_k6 : tg_chk 6 720 720 0 = true := by decide +kernel
theorem tg_k7_0 : tg_chk 7 5040 504 0 = true := by decide +kernel
theorem tg_k7_1 : tg_chk 7 5040 504 504 = true := by decide +kernel
theorem tg_k7_2 : tg_chk 7 5040 504 1008 = true := by decide +kernel
theorem tg_k7_3 : tg_chk 7 5040 504 1512 = true := by decide +kernel
theorem tg_k7_4 : tg_chk 7 5040 504 2016 = true := by decide +kernel
theorem tg_k7_5 : tg_chk 7 5040 504 2520 = true := by decide +kernel
theorem tg_k7_6 : tg_chk 7 5040 504 3024 = true := by decide +kernel
theorem tg_k7_7 : tg_chk 7 5040 504 3528 = true := by decide +kernel
theorem tg_k7_8 : tg_chk 7 5040 504 4032 = true := by decide +kernel
theorem tg_k7_9 : tg_chk 7 5040 504 4536 = true := by decide +kernel
theorem tg_oks {n k : Nat} (h1 : 1 ≤ n) (h7 : n ≤ 7) (hk : k < tg_fac n) : tg_ok n (tg_fac n) k = true := by
  have e : n = 1 ∨ n = 2 ∨ n = 3 ∨ n = 4 ∨ n = 5 ∨ n = 6 ∨ n = 7 := by omega
  rcases e with rfl | rfl | rfl | rfl | rfl | rfl | rfl
  · have f : tg_fac 1 = 1 := by decide
    rw [f] at hk ⊢
    exact tg_chk_ok 1 0 tg_k1 k (Nat.zero_le k) (by omega)
  · have f : tg_fac 2 = 2 := by decide
    rw [f] at hk ⊢
    exact tg_chk_ok 2 0 tg_k2 k (Nat.zero_le k) (by omega)
  · have f : tg_fac 3 = 6 := by decide
    rw [f] at hk ⊢
    exact tg_chk_ok 6 0 tg_k3 k (Nat.zero_le k) (by omega)
  · have f : tg_fac 4 = 24 := by decide
    rw [f] at hk ⊢
    exact tg_chk_ok 24 0 tg_k4 k (Nat.zero_le k) (by omega)
  · have f : tg_fac 5 = 120 := by decide
    rw [f] at hk ⊢
    exact tg_chk_ok 120 0 tg_k5 k (Nat.zero_le k) (by omega)
  · have f : tg_fac 6 = 720 := by decide
    rw [f] at hk ⊢
    exact tg_chk_ok 720 0 tg_k6 k (Nat.zero_le k) (by omega)
  · have f : tg_fac 7 = 5040 := by decide
    rw [f] at hk ⊢
    by_cases z0 : k < 504
    · exact tg_chk_ok 504 0 tg_k7_0 k (by omega) (by omega)
    by_cases z1 : k < 1008
    · exact tg_chk_ok 504 504 tg_k7_1 k (by omega) (by omega)
    by_cases z2 : k < 1512
    · exact tg_chk_ok 504 1008 tg_k7_2 k (by omega) (by omega)
    by_cases z3 : k < 2016
    · exact tg_chk_ok 504 1512 tg_k7_3 k (by omega) (by omega)
    by_cases z4 : k < 2520
    · exact tg_chk_ok 504 2016 tg_k7_4 k (by omega) (by omega)
    by_cases z5 : k < 3024
    · exact tg_chk_ok 504 2520 tg_k7_5 k (by omega) (by omega)
    by_cases z6 : k < 3528
    · exact tg_chk_ok 504 3024 tg_k7_6 k (by omega) (by omega)
    by_cases z7 : k < 4032
    · exact tg_chk_ok 504 3528 tg_k7_7 k (by omega) (by omega)
    by_cases z8 : k < 4536
    · exact tg_chk_ok 504 4032 tg_k7_8 k (by omega) (by omega)
    exact tg_chk_ok 504 4536 tg_k7_9 k (by omega) (by omega)
theorem tg_fact {n k F : Nat} (h : tg_ok n F k = true) :
    (∀ i, i < n → tg_un n k i < n) ∧ tg_riseY (tg_un n k) (n - 1) = tg_rise (tg_un n k) (n - 1) ∧
    (k + 1 < F → 0 < tg_rise (tg_un n k) (n - 1) ∧
      tg_jY (tg_un n k) (tg_rise (tg_un n k) (n - 1) - 1) (n - tg_rise (tg_un n k) (n - 1)) = tg_jX (tg_un n k) (tg_rise (tg_un n k) (n - 1) - 1) (n - tg_rise (tg_un n k) (n - 1) - 1) (tg_rise (tg_un n k) (n - 1) + 1) (tg_rise (tg_un n k) (n - 1)) ∧
      ∀ i, i < n → tg_nx n (tg_un n k) (tg_rise (tg_un n k) (n - 1)) i = tg_un n (k + 1) i) ∧
    (¬ k + 1 < F → tg_rise (tg_un n k) (n - 1) = 0) := by
  unfold tg_ok at h
  rw [Bool.and_eq_true, Bool.and_eq_true] at h
  obtain ⟨h1, h2, h3⟩ := h
  refine ⟨fun i hi => of_decide_eq_true (tg_allB_of n h1 i hi), of_decide_eq_true h2, fun hk => ?_, fun hk => ?_⟩
  · rw [if_pos hk, Bool.and_eq_true, Bool.and_eq_true] at h3
    exact ⟨of_decide_eq_true h3.1, of_decide_eq_true h3.2.1, fun i hi => of_decide_eq_true (tg_allB_of n h3.2.2 i hi)⟩
  · rw [if_neg hk] at h3
    exact of_decide_eq_true h3
theorem tg_un0 : ∀ n, n < 8 → ∀ i, i < n → tg_un n 0 i = i := by decide +kernel
theorem tg_fac_in : ∀ n, n < 8 → 1 ≤ tg_fac n ∧ tg_fac n ≤ 5040 := by decide +kernel
theorem tg_rise_le (p : Nat → Nat) : ∀ m, tg_rise p m ≤ m := by
  intro m
  induction m with
  | zero => exact Nat.le_refl 0
  | succ m ih =>
    rw [tg_rise]
    by_cases h : p m < p (m + 1)
    · rw [if_pos h]; exact Nat.le_refl _
    · rw [if_neg h]; omega
theorem tg_jY_in (p : Nat → Nat) (i : Nat) : ∀ d, i ≤ tg_jY p i d ∧ tg_jY p i d ≤ i + d := by
  intro d
  induction d with
  | zero => exact ⟨Nat.le_refl i, Nat.le_refl i⟩
  | succ d ih =>
    rw [tg_jY]
    by_cases h : p (i + (d + 1)) < p i
    · rw [if_pos h]; omega
    · rw [if_neg h]; omega
/-- the array o holds the order p on its first n places -/
def tg_O (n : Nat) (p : Nat → Nat) (o : Nat → Int32) : Prop := ∀ i, i < n → o i = nI (p i)
theorem tg_O_e {n : Nat} {p q : Nat → Nat} {o : Nat → Int32} (h : tg_O n p o) (e : ∀ i, i < n → p i = q i) : tg_O n q o :=
  fun i hi => by rw [h i hi, e i hi]
theorem tg_O_sw {n : Nat} {p : Nat → Nat} {o : Nat → Int32} {i j : Nat} (h : tg_O n p o) (hi : i < n) (hj : j < n) : tg_O n (tg_sw p i j) (upd (upd o i (o j)) j (o i)) := by
  intro x hx
  show (if x = j then o i else (if x = i then o j else o x)) = nI (if x = j then p i else if x = i then p j else p x)
  by_cases e : x = j
  · rw [if_pos e, if_pos e]; exact h i hi
  · rw [if_neg e, if_neg e]
    by_cases e2 : x = i
    · rw [if_pos e2, if_pos e2]; exact h j hj
    · rw [if_neg e2, if_neg e2]; exact h x hx
theorem tg_sw_lt {n : Nat} {p : Nat → Nat} {i j : Nat} (h : ∀ x, x < n → p x < n) (hi : i < n) (hj : j < n) : ∀ x, x < n → tg_sw p i j x < n := by
  intro x hx
  show (if x = j then p i else if x = i then p j else p x) < n
  by_cases e : x = j
  · rw [if_pos e]; exact h i hi
  · rw [if_neg e]
    by_cases e2 : x = i
    · rw [if_pos e2]; exact h j hj
    · rw [if_neg e2]; exact h x hx
theorem tg_pl (g a b : Nat) : nI g * 49 + nI a * 7 + nI b = nI (49 * g + 7 * a + b) := by
  show nI g * nI 49 + nI a * nI 7 + nI b = _
  rw [pk_mul, pk_mul, nI_add, nI_add, Nat.mul_comm g 49, Nat.mul_comm a 7]
theorem tg_plY (g a b : Nat) : 49 * nI g + 7 * nI a + nI b = nI (49 * g + 7 * a + b) := by
  show nI 49 * nI g + nI 7 * nI a + nI b = _
  rw [pk_mul, pk_mul, nI_add, nI_add]
/-- the pairs of the first n points: graph g under the order p of graph h -/
def tg_LY (c : Nat → Int32) (p : Nat → Nat) (n g h : Nat) : Prop := ∀ a, a < n → ∀ b, b ≤ a → c (49 * g + 7 * a + b) = c (49 * h + 7 * p a + p b)
def tg_fi (c : Nat → Int32) (p : Nat → Nat) (g a : Nat) : Nat → Nat → Int64 → Int64
  | 0, _, r => r
  | d + 1, b, r => tg_fi c p g a d (b + 1) (r * 4 + (c (49 * g + 7 * p a + p b)).toInt64)
def tg_fo (c : Nat → Int32) (p : Nat → Nat) (g : Nat) : Nat → Nat → Int64 → Int64
  | 0, _, r => r
  | d + 1, a, r => tg_fo c p g d (a + 1) (tg_fi c p g a (a + 1) 0 r)
theorem tg_i2 (m : Nat) : nI (m + 1) - 2 = nI m + (-1) := by
  rw [← nI_1]; grind
theorem tg_m1 : nI 0 + (-1) = -1 := by decide
theorem tg_i1 (m : Nat) : nI (m + 1) - 1 = nI m := nI_pred m
theorem tg_neg : (-1 : Int32) < 0 := by decide
theorem tg_pt (a : Int32) {n : Nat} (hn : n < 2 ^ 31) : (∃ j, j < n ∧ a = nI j) ∨ (a < 0 ∨ (¬ a < 0 ∧ ¬ a < nI n)) := by
  by_cases h : a < 0
  · exact Or.inr (Or.inl h)
  · obtain ⟨j, hj, rfl⟩ := nI_of h
    by_cases h2 : j < n
    · exact Or.inl ⟨j, h2, rfl⟩
    · exact Or.inr (Or.inr ⟨h, nI_nlt (by omega) hj⟩)
theorem tg_gr (g : Int32) : (∃ j, j < 2 ∧ g = nI j) ∨ (¬ g = 0 ∧ ¬ g = 1) := by
  by_cases h : g = 0
  · exact Or.inl ⟨0, by omega, h⟩
  · by_cases h1 : g = 1
    · exact Or.inl ⟨1, by omega, h1⟩
    · exact Or.inr ⟨h, h1⟩
/-! the colours as a table: both places of a pair hold one colour; the copy with two points changed -/
def tg_Sy (n : Nat) (c : Nat → Int32) : Prop := ∀ G x y, G < 2 → x < n → y < n → c (49 * G + 7 * x + y) = c (49 * G + 7 * y + x)
theorem tg_Sy_p {n g a b : Nat} {c : Nat → Int32} {v : Int32} (hn : n ≤ 7) (h : tg_Sy n c) (ha : a < n) (hb : b < n) :
    tg_Sy n (upd (upd c (49 * g + 7 * a + b) v) (49 * g + 7 * b + a) v) := by
  intro G x y hG hx hy
  have E : ∀ q, upd (upd c (49 * g + 7 * a + b) v) (49 * g + 7 * b + a) v q = if q = 49 * g + 7 * b + a then v else if q = 49 * g + 7 * a + b then v else c q := fun q => rfl
  rw [E, E]
  by_cases e1 : 49 * G + 7 * x + y = 49 * g + 7 * b + a
  · have e2 : 49 * G + 7 * y + x = 49 * g + 7 * a + b := by omega
    by_cases e3 : 49 * G + 7 * y + x = 49 * g + 7 * b + a
    · rw [if_pos e1, if_pos e3]
    · rw [if_pos e1, if_neg e3, if_pos e2]
  · rw [if_neg e1]
    by_cases e4 : 49 * G + 7 * x + y = 49 * g + 7 * a + b
    · have e5 : 49 * G + 7 * y + x = 49 * g + 7 * b + a := by omega
      rw [if_pos e4, if_pos e5]
    · have e5 : ¬ 49 * G + 7 * y + x = 49 * g + 7 * b + a := by omega
      have e6 : ¬ 49 * G + 7 * y + x = 49 * g + 7 * a + b := by omega
      rw [if_neg e4, if_neg e5, if_neg e6]
      exact h G x y hG hx hy
/-- the copy, done at the pairs that D names -/
def tg_CK (c : Nat → Int32) (s : Nat → Nat) (n g : Nat) (D : Nat → Nat → Prop) (f : Nat → Int32) : Prop :=
  (∀ q, (∀ x y, x < n → y < n → q ≠ 49 * g + 7 * x + y) → f q = c q) ∧
  (∀ x y, x < n → y < n → D x y → f (49 * g + 7 * x + y) = c (49 * (1 - g) + 7 * s x + s y))
theorem tg_CK_0 {c : Nat → Int32} {s : Nat → Nat} {n g : Nat} {D : Nat → Nat → Prop} (h : ∀ x y, ¬ D x y) : tg_CK c s n g D c :=
  ⟨fun _ _ => rfl, fun x y _ _ z => absurd z (h x y)⟩
theorem tg_CK_m {c f : Nat → Int32} {s : Nat → Nat} {n g : Nat} {D D' : Nat → Nat → Prop} (h : tg_CK c s n g D f) (k : ∀ x y, x < n → y < n → D' x y → D x y) : tg_CK c s n g D' f :=
  ⟨h.1, fun x y hx hy z => h.2 x y hx hy (k x y hx hy z)⟩
theorem tg_CK_r {c f : Nat → Int32} {s : Nat → Nat} {n g x y : Nat} {D : Nat → Nat → Prop} (hn : n ≤ 7) (hg : g < 2) (hs : ∀ z, z < n → s z < n) (h : tg_CK c s n g D f) (hx : x < n) (hy : y < n) :
    f (49 * (1 - g) + 7 * s x + s y) = c (49 * (1 - g) + 7 * s x + s y) := by
  refine h.1 _ (fun x2 y2 h2 h3 => ?_)
  have a1 := hs x hx
  have a2 := hs y hy
  omega
theorem tg_CK_x {c f : Nat → Int32} {s : Nat → Nat} {n g x y : Nat} {D D' : Nat → Nat → Prop} (hn : n ≤ 7) (hg : g < 2) (hs : ∀ z, z < n → s z < n) (hc : tg_Sy n c) (h : tg_CK c s n g D f) (hx : x < n) (hy : y < n)
    (k : ∀ x' y', x' < n → y' < n → D' x' y' → D x' y' ∨ (x' = x ∧ y' = y) ∨ (x' = y ∧ y' = x)) :
    tg_CK c s n g D' (upd (upd f (49 * g + 7 * x + y) (f (49 * (1 - g) + 7 * s x + s y))) (49 * g + 7 * y + x) (f (49 * (1 - g) + 7 * s x + s y))) := by
  have hv := tg_CK_r hn hg hs h hx hy
  have E : ∀ q v, upd (upd f (49 * g + 7 * x + y) v) (49 * g + 7 * y + x) v q = if q = 49 * g + 7 * y + x then v else if q = 49 * g + 7 * x + y then v else f q := fun q v => rfl
  constructor
  · intro q hq
    rw [E, if_neg (hq y x hy hx), if_neg (hq x y hx hy)]
    exact h.1 q hq
  · intro x' y' hx' hy' hD
    rw [E, hv]
    by_cases e1 : 49 * g + 7 * x' + y' = 49 * g + 7 * y + x
    · have a1 : x' = y := by omega
      have a2 : y' = x := by omega
      rw [if_pos e1, a1, a2]
      exact hc (1 - g) (s x) (s y) (by omega) (hs x hx) (hs y hy)
    · rw [if_neg e1]
      by_cases e2 : 49 * g + 7 * x' + y' = 49 * g + 7 * x + y
      · have a1 : x' = x := by omega
        have a2 : y' = y := by omega
        rw [if_pos e2, a1, a2]
      · rw [if_neg e2]
        rcases k x' y' hx' hy' hD with z | ⟨z1, z2⟩ | ⟨z1, z2⟩
        · exact h.2 x' y' hx' hy' z
        · exact absurd (by rw [z1, z2]) e2
        · exact absurd (by rw [z1, z2]) e1
theorem tg_CK_y {c f : Nat → Int32} {s : Nat → Nat} {n g x y : Nat} {D D' : Nat → Nat → Prop} (hn : n ≤ 7) (hg : g < 2) (hs : ∀ z, z < n → s z < n) (h : tg_CK c s n g D f) (hx : x < n) (hy : y < n)
    (k : ∀ x' y', x' < n → y' < n → D' x' y' → D x' y' ∨ (x' = x ∧ y' = y)) :
    tg_CK c s n g D' (upd f (49 * g + 7 * x + y) (f (49 * (1 - g) + 7 * s x + s y))) := by
  have hv := tg_CK_r hn hg hs h hx hy
  have E : ∀ q v, upd f (49 * g + 7 * x + y) v q = if q = 49 * g + 7 * x + y then v else f q := fun q v => rfl
  constructor
  · intro q hq
    rw [E, if_neg (hq x y hx hy)]
    exact h.1 q hq
  · intro x' y' hx' hy' hD
    rw [E, hv]
    by_cases e2 : 49 * g + 7 * x' + y' = 49 * g + 7 * x + y
    · have a1 : x' = x := by omega
      have a2 : y' = y := by omega
      rw [if_pos e2, a1, a2]
    · rw [if_neg e2]
      rcases k x' y' hx' hy' hD with z | ⟨z1, z2⟩
      · exact h.2 x' y' hx' hy' z
      · exact absurd (by rw [z1, z2]) e2
theorem tg_CK_eq {c f f' : Nat → Int32} {s : Nat → Nat} {n g : Nat} {D D' : Nat → Nat → Prop} (h : tg_CK c s n g D f) (h' : tg_CK c s n g D' f') (a : ∀ x y, x < n → y < n → D x y) (a' : ∀ x y, x < n → y < n → D' x y) : f = f' := by
  funext q
  by_cases e : ∃ x y, x < n ∧ y < n ∧ q = 49 * g + 7 * x + y
  · obtain ⟨x, y, hx, hy, rfl⟩ := e
    rw [h.2 x y hx hy (a x y hx hy), h'.2 x y hx hy (a' x y hx hy)]
  · have z : ∀ x y, x < n → y < n → q ≠ 49 * g + 7 * x + y := fun x y hx hy w => e ⟨x, y, hx, hy, w⟩
    rw [h.1 q z, h'.1 q z]
theorem tg_CK_s {c f : Nat → Int32} {s : Nat → Nat} {n g : Nat} {D : Nat → Nat → Prop} (hn : n ≤ 7) (hs : ∀ z, z < n → s z < n) (hc : tg_Sy n c) (h : tg_CK c s n g D f) (a : ∀ x y, x < n → y < n → D x y) : tg_Sy n f := by
  intro G x y hG hx hy
  by_cases e : G = g
  · subst e
    rw [h.2 x y hx hy (a x y hx hy), h.2 y x hy hx (a y x hy hx)]
    exact hc (1 - G) (s x) (s y) (by omega) (hs x hx) (hs y hy)
  · rw [h.1 _ (fun x2 y2 h2 h3 => by omega), h.1 _ (fun x2 y2 h2 h3 => by omega)]
    exact hc G x y hG hx hy
