/-! 06: the five searches, class and reference together: both are at the k-th order at turn k -/
theorem tg_hp {n k : Nat} (h1 : 1 ≤ n) (h7 : n ≤ 7) (hk : k < tg_fac n) : ∀ i, i < n → tg_un n k i < n := (tg_fact (tg_oks h1 h7 hk)).1
theorem tm_count {c : Nat → Int32} {n g h : Nat} (h1 : 1 ≤ n) (h7 : n ≤ 7) (hg : g < 2) (hh : h < 2) : ∀ d k s, k + d = tg_fac n → ∃ r : Int32,
    (∀ (post : Int32 → SX → Prop) o e, (0 < d → tg_O n (tg_un n k) o) → d < e → (∀ o', post r (nI n, nI (tg_fac n), c, o')) → wX_countLayings_9 post (nI g) (nI h) e s (nI k) (nI n) (nI (tg_fac n)) c o) ∧
    (∀ (post : Int32 → SY → Prop) o m e, (m = 0 ∧ d = 0) ∨ (m = 1 ∧ 0 < d ∧ tg_O n (tg_un n k) o) → d < e → (∀ o', post r (nI n, c, o')) → wY_count_12 post (nI g) (nI h) e s m (nI k) (nI n) c o) := by
  have hF := tg_fac_in n (by omega)
  intro d
  induction d with
  | zero =>
    intro k s hd
    refine ⟨s, fun post o e hO he H => ?_, fun post o m e hm he H => ?_⟩
    · obtain ⟨e, rfl⟩ : ∃ q, e = q + 1 := ⟨e - 1, by omega⟩
      exact br_t (nI_le (by omega) (by omega)) (H o)
    · obtain ⟨e, rfl⟩ : ∃ q, e = q + 1 := ⟨e - 1, by omega⟩
      rcases hm with ⟨rfl, _⟩ | ⟨_, q, _⟩
      · exact br_c (fun _ => H o) (fun _ => br_t rfl (H o))
      · omega
  | succ d ih =>
    intro k s hd
    have hk : k < tg_fac n := by omega
    have hp := tg_hp h1 h7 hk
    by_cases L : tg_LY c (tg_un n k) n g h
    · obtain ⟨r, hX, hY⟩ := ih (k + 1) (s + 1) (by omega)
      refine ⟨r, fun post o e hO he H => ?_, fun post o m e hm he H => ?_⟩
      · obtain ⟨e, rfl⟩ : ∃ q, e = q + 1 := ⟨e - 1, by omega⟩
        have hO := hO (by omega)
        refine br_f (nI_ge hk (by omega)) ?_
        refine tx_ly h7 hg hh hO hp (fun _ => ?_) (fun z => absurd L z)
        refine br_f tg_10 (nm_e ?_)
        unfold wX_countLayings_30
        refine tx_next h1 h7 hk hO (fun o' ho' => ?_)
        exact nm_r (nI_1 k) (hX post o' e (fun q => ho' (by omega)) (by omega) H)
      · obtain ⟨e, rfl⟩ : ∃ q, e = q + 1 := ⟨e - 1, by omega⟩
        rcases hm with ⟨_, q⟩ | ⟨rfl, _, hO⟩
        · omega
        · refine br_f (nI_ge (b := 5040) (by omega) (by omega)) (br_f tg_10 ?_)
          refine ty_ly h7 hg hh hO hp (fun _ => ?_) (fun z => absurd L z)
          refine br_f tg_10 (nm_e ?_)
          unfold wY_count_37
          refine ty_next h1 h7 hk hO (fun q o' ho' => ?_) (fun q o' => ?_)
          · exact nm_r (nI_1 k) (hY post o' 1 e (Or.inr ⟨rfl, by omega, ho'⟩) (by omega) H)
          · exact nm_r (nI_1 k) (hY post o' 0 e (Or.inl ⟨rfl, by omega⟩) (by omega) H)
    · obtain ⟨r, hX, hY⟩ := ih (k + 1) s (by omega)
      refine ⟨r, fun post o e hO he H => ?_, fun post o m e hm he H => ?_⟩
      · obtain ⟨e, rfl⟩ : ∃ q, e = q + 1 := ⟨e - 1, by omega⟩
        have hO := hO (by omega)
        refine br_f (nI_ge hk (by omega)) ?_
        refine tx_ly h7 hg hh hO hp (fun z => absurd z L) (fun _ => ?_)
        refine br_t rfl ?_
        unfold wX_countLayings_30
        refine tx_next h1 h7 hk hO (fun o' ho' => ?_)
        exact nm_r (nI_1 k) (hX post o' e (fun q => ho' (by omega)) (by omega) H)
      · obtain ⟨e, rfl⟩ : ∃ q, e = q + 1 := ⟨e - 1, by omega⟩
        rcases hm with ⟨_, q⟩ | ⟨rfl, _, hO⟩
        · omega
        · refine br_f (nI_ge (b := 5040) (by omega) (by omega)) (br_f tg_10 ?_)
          refine ty_ly h7 hg hh hO hp (fun z => absurd z L) (fun _ => ?_)
          refine br_t rfl ?_
          unfold wY_count_37
          refine ty_next h1 h7 hk hO (fun q o' ho' => ?_) (fun q o' => ?_)
          · exact nm_r (nI_1 k) (hY post o' 1 e (Or.inr ⟨rfl, by omega, ho'⟩) (by omega) H)
          · exact nm_r (nI_1 k) (hY post o' 0 e (Or.inl ⟨rfl, by omega⟩) (by omega) H)
theorem tm_laid {c : Nat → Int32} {n a : Nat} (h1 : 1 ≤ n) (h7 : n ≤ 7) (ha : a < n) : ∀ d k, k + d = tg_fac n → ∃ r : Int32,
    (∀ (post : Int32 → SX → Prop) o e, (0 < d → tg_O n (tg_un n k) o) → d < e → (∀ o', post r (nI n, nI (tg_fac n), c, o')) → wX_laid_16 post (nI a) e (nI k) (nI n) (nI (tg_fac n)) c o) ∧
    (∀ (post : Int32 → SY → Prop) o m e, (m = 0 ∧ d = 0) ∨ (m = 1 ∧ 0 < d ∧ tg_O n (tg_un n k) o) → d < e → (∀ o', post r (nI n, c, o')) → wY_laid_18 post (nI a) e m (nI k) (nI n) c o) := by
  have hF := tg_fac_in n (by omega)
  intro d
  induction d with
  | zero =>
    intro k hd
    refine ⟨-1, fun post o e hO he H => ?_, fun post o m e hm he H => ?_⟩
    · obtain ⟨e, rfl⟩ : ∃ q, e = q + 1 := ⟨e - 1, by omega⟩
      exact br_t (nI_le (by omega) (by omega)) (H o)
    · obtain ⟨e, rfl⟩ : ∃ q, e = q + 1 := ⟨e - 1, by omega⟩
      rcases hm with ⟨rfl, _⟩ | ⟨_, q, _⟩
      · exact br_c (fun _ => H o) (fun _ => br_t rfl (H o))
      · omega
  | succ d ih =>
    intro k hd
    have hk : k < tg_fac n := by omega
    have hp := tg_hp h1 h7 hk
    by_cases L : tg_LY c (tg_un n k) n 0 1
    · refine ⟨nI (tg_un n k a), fun post o e hO he H => ?_, fun post o m e hm he H => ?_⟩
      · obtain ⟨e, rfl⟩ : ∃ q, e = q + 1 := ⟨e - 1, by omega⟩
        have hO := hO (by omega)
        have e1 : o (nI a).toNatClampNeg = nI (tg_un n k a) := by rw [nI_clamp (by omega)]; exact hO a ha
        refine br_f (nI_ge hk (by omega)) ?_
        refine tx_ly (g := 0) (h := 1) h7 (by omega) (by omega) hO hp (fun _ => ?_) (fun z => absurd L z)
        refine br_f tg_10 ⟨vp_in_nI (by omega) (by omega), ?_⟩
        rw [e1]
        exact H o
      · obtain ⟨e, rfl⟩ : ∃ q, e = q + 1 := ⟨e - 1, by omega⟩
        rcases hm with ⟨_, q⟩ | ⟨rfl, _, hO⟩
        · omega
        · have e1 : o (nI a).toNatClampNeg = nI (tg_un n k a) := by rw [nI_clamp (by omega)]; exact hO a ha
          refine br_f (nI_ge (b := 5040) (by omega) (by omega)) (br_f tg_10 ?_)
          refine ty_ly (g := 0) (h := 1) h7 (by omega) (by omega) hO hp (fun _ => ?_) (fun z => absurd L z)
          refine br_f tg_10 ⟨vp_in_nI (by omega) (by omega), ?_⟩
          rw [e1]
          exact H o
    · obtain ⟨r, hX, hY⟩ := ih (k + 1) (by omega)
      refine ⟨r, fun post o e hO he H => ?_, fun post o m e hm he H => ?_⟩
      · obtain ⟨e, rfl⟩ : ∃ q, e = q + 1 := ⟨e - 1, by omega⟩
        have hO := hO (by omega)
        refine br_f (nI_ge hk (by omega)) ?_
        refine tx_ly (g := 0) (h := 1) h7 (by omega) (by omega) hO hp (fun z => absurd z L) (fun _ => ?_)
        refine br_t rfl ?_
        refine tx_next h1 h7 hk hO (fun o' ho' => ?_)
        exact nm_r (nI_1 k) (hX post o' e (fun q => ho' (by omega)) (by omega) H)
      · obtain ⟨e, rfl⟩ : ∃ q, e = q + 1 := ⟨e - 1, by omega⟩
        rcases hm with ⟨_, q⟩ | ⟨rfl, _, hO⟩
        · omega
        · refine br_f (nI_ge (b := 5040) (by omega) (by omega)) (br_f tg_10 ?_)
          refine ty_ly (g := 0) (h := 1) h7 (by omega) (by omega) hO hp (fun z => absurd z L) (fun _ => ?_)
          refine br_t rfl ?_
          refine ty_next h1 h7 hk hO (fun q o' ho' => ?_) (fun q o' => ?_)
          · exact nm_r (nI_1 k) (hY post o' 1 e (Or.inr ⟨rfl, by omega, ho'⟩) (by omega) H)
          · exact nm_r (nI_1 k) (hY post o' 0 e (Or.inl ⟨rfl, by omega⟩) (by omega) H)
theorem tm_can {c : Nat → Int32} {n a a' : Nat} {b b' : Int32} (h1 : 1 ≤ n) (h7 : n ≤ 7) (ha : a < n) (ha' : a' < n) : ∀ d k, k + d = tg_fac n → ∃ r : Int32,
    (∀ (post : Int32 → SX → Prop) o e, (0 < d → tg_O n (tg_un n k) o) → d < e → (∀ o', post r (nI n, nI (tg_fac n), c, o')) → wX_canLay_42 post (nI a) b (nI a') b' e (nI k) (nI n) (nI (tg_fac n)) c o) ∧
    (∀ (post : Int32 → SY → Prop) o m e, (m = 0 ∧ d = 0) ∨ (m = 1 ∧ 0 < d ∧ tg_O n (tg_un n k) o) → d < e → (∀ o', post r (nI n, c, o')) → wY_canLay_45 post (nI a) b (nI a') b' e m (nI k) (nI n) c o) := by
  have hF := tg_fac_in n (by omega)
  have va : vp_in (nI a) 7 := vp_in_nI (by omega) (by omega)
  have va' : vp_in (nI a') 7 := vp_in_nI (by omega) (by omega)
  intro d
  induction d with
  | zero =>
    intro k hd
    refine ⟨0, fun post o e hO he H => ?_, fun post o m e hm he H => ?_⟩
    · obtain ⟨e, rfl⟩ : ∃ q, e = q + 1 := ⟨e - 1, by omega⟩
      exact br_t (nI_le (by omega) (by omega)) (H o)
    · obtain ⟨e, rfl⟩ : ∃ q, e = q + 1 := ⟨e - 1, by omega⟩
      rcases hm with ⟨rfl, _⟩ | ⟨_, q, _⟩
      · exact br_c (fun _ => H o) (fun _ => br_t rfl (H o))
      · omega
  | succ d ih =>
    intro k hd
    have hk : k < tg_fac n := by omega
    have hp := tg_hp h1 h7 hk
    by_cases Q : nI (tg_un n k a) = b ∧ nI (tg_un n k a') = b' ∧ tg_LY c (tg_un n k) n 0 1
    · obtain ⟨q1, q2, L⟩ := Q
      refine ⟨1, fun post o e hO he H => ?_, fun post o m e hm he H => ?_⟩
      · obtain ⟨e, rfl⟩ : ∃ q, e = q + 1 := ⟨e - 1, by omega⟩
        have hO := hO (by omega)
        have e1 : o (nI a).toNatClampNeg = nI (tg_un n k a) := by rw [nI_clamp (by omega)]; exact hO a ha
        have e2 : o (nI a').toNatClampNeg = nI (tg_un n k a') := by rw [nI_clamp (by omega)]; exact hO a' ha'
        refine br_f (nI_ge hk (by omega)) ⟨va, br_t (e1.trans q1) ⟨va', br_t (e2.trans q2) ?_⟩⟩
        refine tx_ly (g := 0) (h := 1) h7 (by omega) (by omega) hO hp (fun _ => ?_) (fun z => absurd L z)
        exact br_f tg_10 (H o)
      · obtain ⟨e, rfl⟩ : ∃ q, e = q + 1 := ⟨e - 1, by omega⟩
        rcases hm with ⟨_, q⟩ | ⟨rfl, _, hO⟩
        · omega
        · have e1 : o (nI a).toNatClampNeg = nI (tg_un n k a) := by rw [nI_clamp (by omega)]; exact hO a ha
          have e2 : o (nI a').toNatClampNeg = nI (tg_un n k a') := by rw [nI_clamp (by omega)]; exact hO a' ha'
          refine br_f (nI_ge (b := 5040) (by omega) (by omega)) (br_f tg_10 ⟨va, br_t (e1.trans q1) ⟨va', br_t (e2.trans q2) ?_⟩⟩)
          refine ty_ly (g := 0) (h := 1) h7 (by omega) (by omega) hO hp (fun _ => ?_) (fun z => absurd L z)
          exact br_f tg_10 (H o)
    · obtain ⟨r, hX, hY⟩ := ih (k + 1) (by omega)
      refine ⟨r, fun post o e hO he H => ?_, fun post o m e hm he H => ?_⟩
      · obtain ⟨e, rfl⟩ : ∃ q, e = q + 1 := ⟨e - 1, by omega⟩
        have hO := hO (by omega)
        have e1 : o (nI a).toNatClampNeg = nI (tg_un n k a) := by rw [nI_clamp (by omega)]; exact hO a ha
        have e2 : o (nI a').toNatClampNeg = nI (tg_un n k a') := by rw [nI_clamp (by omega)]; exact hO a' ha'
        have K : wX_canLay_83 post (wX_canLay_42 post (nI a) b (nI a') b' e) (nI a) b (nI a') b' (nI k) (nI n) (nI (tg_fac n)) c o := by
          unfold wX_canLay_83
          refine tx_next h1 h7 hk hO (fun o' ho' => ?_)
          exact nm_r (nI_1 k) (hX post o' e (fun q => ho' (by omega)) (by omega) H)
        refine br_f (nI_ge hk (by omega)) ⟨va, br_c (fun z1 => ⟨va', br_c (fun z2 => ?_) (fun _ => K)⟩) (fun _ => K)⟩
        refine tx_ly (g := 0) (h := 1) h7 (by omega) (by omega) hO hp (fun L => absurd ⟨e1.symm.trans z1, e2.symm.trans z2, L⟩ Q) (fun _ => ?_)
        exact br_t rfl K
      · obtain ⟨e, rfl⟩ : ∃ q, e = q + 1 := ⟨e - 1, by omega⟩
        rcases hm with ⟨_, q⟩ | ⟨rfl, _, hO⟩
        · omega
        · have e1 : o (nI a).toNatClampNeg = nI (tg_un n k a) := by rw [nI_clamp (by omega)]; exact hO a ha
          have e2 : o (nI a').toNatClampNeg = nI (tg_un n k a') := by rw [nI_clamp (by omega)]; exact hO a' ha'
          have K : wY_canLay_90 post (wY_canLay_45 post (nI a) b (nI a') b' e) (nI a) b (nI a') b' (nI k) (nI n) c o := by
            unfold wY_canLay_90
            refine ty_next h1 h7 hk hO (fun q o' ho' => ?_) (fun q o' => ?_)
            · exact nm_r (nI_1 k) (hY post o' 1 e (Or.inr ⟨rfl, by omega, ho'⟩) (by omega) H)
            · exact nm_r (nI_1 k) (hY post o' 0 e (Or.inl ⟨rfl, by omega⟩) (by omega) H)
          refine br_f (nI_ge (b := 5040) (by omega) (by omega)) (br_f tg_10 ⟨va, br_c (fun z1 => ⟨va', br_c (fun z2 => ?_) (fun _ => K)⟩) (fun _ => K)⟩)
          refine ty_ly (g := 0) (h := 1) h7 (by omega) (by omega) hO hp (fun L => absurd ⟨e1.symm.trans z1, e2.symm.trans z2, L⟩ Q) (fun _ => ?_)
          exact br_t rfl K
theorem tm_mir {c : Nat → Int32} {n g a : Nat} (h1 : 1 ≤ n) (h7 : n ≤ 7) (hg : g < 2) (ha : a < n) : ∀ d k s, k + d = tg_fac n → ∃ r : Int32,
    (∀ (post : Int32 → SX → Prop) o e, (0 < d → tg_O n (tg_un n k) o) → d < e → (∀ o', post r (nI n, nI (tg_fac n), c, o')) → wX_mirror_26 post (nI g) (nI a) e s (nI k) (nI n) (nI (tg_fac n)) c o) ∧
    (∀ (post : Int32 → SY → Prop) o m e, (m = 0 ∧ d = 0) ∨ (m = 1 ∧ 0 < d ∧ tg_O n (tg_un n k) o) → d < e → (∀ o', post r (nI n, c, o')) → wY_mirror_29 post (nI g) (nI a) e s m (nI k) (nI n) c o) := by
  have hF := tg_fac_in n (by omega)
  have va : vp_in (nI a) 7 := vp_in_nI (by omega) (by omega)
  intro d
  induction d with
  | zero =>
    intro k s hd
    refine ⟨s, fun post o e hO he H => ?_, fun post o m e hm he H => ?_⟩
    · obtain ⟨e, rfl⟩ : ∃ q, e = q + 1 := ⟨e - 1, by omega⟩
      exact br_t (nI_le (by omega) (by omega)) (H o)
    · obtain ⟨e, rfl⟩ : ∃ q, e = q + 1 := ⟨e - 1, by omega⟩
      rcases hm with ⟨rfl, _⟩ | ⟨_, q, _⟩
      · exact br_c (fun _ => H o) (fun _ => br_t rfl (H o))
      · omega
  | succ d ih =>
    intro k s hd
    have hk : k < tg_fac n := by omega
    have hp := tg_hp h1 h7 hk
    by_cases Q : ¬ s ≤ nI (tg_un n k a) ∧ tg_LY c (tg_un n k) n g g
    · obtain ⟨q1, L⟩ := Q
      obtain ⟨r, hX, hY⟩ := ih (k + 1) (nI (tg_un n k a)) (by omega)
      refine ⟨r, fun post o e hO he H => ?_, fun post o m e hm he H => ?_⟩
      · obtain ⟨e, rfl⟩ : ∃ q, e = q + 1 := ⟨e - 1, by omega⟩
        have hO := hO (by omega)
        have e1 : o (nI a).toNatClampNeg = nI (tg_un n k a) := by rw [nI_clamp (by omega)]; exact hO a ha
        refine br_f (nI_ge hk (by omega)) ⟨va, br_f (by rw [e1]; exact q1) ?_⟩
        refine tx_ly h7 hg hg hO hp (fun _ => ?_) (fun z => absurd L z)
        refine br_f tg_10 ⟨va, nm_r e1 ?_⟩
        unfold wX_mirror_61
        refine tx_next h1 h7 hk hO (fun o' ho' => ?_)
        exact nm_r (nI_1 k) (hX post o' e (fun q => ho' (by omega)) (by omega) H)
      · obtain ⟨e, rfl⟩ : ∃ q, e = q + 1 := ⟨e - 1, by omega⟩
        rcases hm with ⟨_, q⟩ | ⟨rfl, _, hO⟩
        · omega
        · have e1 : o (nI a).toNatClampNeg = nI (tg_un n k a) := by rw [nI_clamp (by omega)]; exact hO a ha
          refine br_f (nI_ge (b := 5040) (by omega) (by omega)) (br_f tg_10 ⟨va, br_f (by rw [e1]; exact q1) ?_⟩)
          refine ty_ly h7 hg hg hO hp (fun _ => ?_) (fun z => absurd L z)
          refine br_f tg_10 ⟨va, nm_r e1 ?_⟩
          unfold wY_mirror_68
          refine ty_next h1 h7 hk hO (fun q o' ho' => ?_) (fun q o' => ?_)
          · exact nm_r (nI_1 k) (hY post o' 1 e (Or.inr ⟨rfl, by omega, ho'⟩) (by omega) H)
          · exact nm_r (nI_1 k) (hY post o' 0 e (Or.inl ⟨rfl, by omega⟩) (by omega) H)
    · obtain ⟨r, hX, hY⟩ := ih (k + 1) s (by omega)
      refine ⟨r, fun post o e hO he H => ?_, fun post o m e hm he H => ?_⟩
      · obtain ⟨e, rfl⟩ : ∃ q, e = q + 1 := ⟨e - 1, by omega⟩
        have hO := hO (by omega)
        have e1 : o (nI a).toNatClampNeg = nI (tg_un n k a) := by rw [nI_clamp (by omega)]; exact hO a ha
        have K : wX_mirror_61 post (wX_mirror_26 post (nI g) (nI a) e) (nI g) (nI a) s (nI k) (nI n) (nI (tg_fac n)) c o := by
          unfold wX_mirror_61
          refine tx_next h1 h7 hk hO (fun o' ho' => ?_)
          exact nm_r (nI_1 k) (hX post o' e (fun q => ho' (by omega)) (by omega) H)
        refine br_f (nI_ge hk (by omega)) ⟨va, br_c (fun _ => K) (fun z1 => ?_)⟩
        rw [e1] at z1
        refine tx_ly h7 hg hg hO hp (fun L => absurd ⟨z1, L⟩ Q) (fun _ => ?_)
        exact br_t rfl K
      · obtain ⟨e, rfl⟩ : ∃ q, e = q + 1 := ⟨e - 1, by omega⟩
        rcases hm with ⟨_, q⟩ | ⟨rfl, _, hO⟩
        · omega
        · have e1 : o (nI a).toNatClampNeg = nI (tg_un n k a) := by rw [nI_clamp (by omega)]; exact hO a ha
          have K : wY_mirror_68 post (wY_mirror_29 post (nI g) (nI a) e) (nI g) (nI a) s (nI k) (nI n) c o := by
            unfold wY_mirror_68
            refine ty_next h1 h7 hk hO (fun q o' ho' => ?_) (fun q o' => ?_)
            · exact nm_r (nI_1 k) (hY post o' 1 e (Or.inr ⟨rfl, by omega, ho'⟩) (by omega) H)
            · exact nm_r (nI_1 k) (hY post o' 0 e (Or.inl ⟨rfl, by omega⟩) (by omega) H)
          refine br_f (nI_ge (b := 5040) (by omega) (by omega)) (br_f tg_10 ⟨va, br_c (fun _ => K) (fun z1 => ?_)⟩)
          rw [e1] at z1
          refine ty_ly h7 hg hg hO hp (fun L => absurd ⟨z1, L⟩ Q) (fun _ => ?_)
          exact br_t rfl K
/-- the class's loop tries order k + 1 at its head, the reference has tried it already -/
theorem tm_form {c : Nat → Int32} {n g : Nat} (h1 : 1 ≤ n) (h7 : n ≤ 7) (hg : g < 2) : ∀ d k (s : Int64), k + 1 + d = tg_fac n → ∃ r : Int64,
    (∀ (post : Int64 → SX → Prop) o e, tg_O n (tg_un n k) o → d < e → (∀ o', post r (nI n, nI (tg_fac n), c, o')) → wX_leastForm_24 post (nI g) e s (nI (k + 1)) (nI n) (nI (tg_fac n)) c o) ∧
    (∀ (post : Int64 → SY → Prop) o m e, (m = 0 ∧ d = 0) ∨ (m = 1 ∧ 0 < d ∧ tg_O n (tg_un n (k + 1)) o) → d < e → (∀ o', post r (nI n, c, o')) → wY_leastForm_30 post (nI g) e s m (nI k) (nI n) c o) := by
  have hF := tg_fac_in n (by omega)
  intro d
  induction d with
  | zero =>
    intro k s hd
    refine ⟨s, fun post o e hO he H => ?_, fun post o m e hm he H => ?_⟩
    · obtain ⟨e, rfl⟩ : ∃ q, e = q + 1 := ⟨e - 1, by omega⟩
      exact br_t (nI_le (by omega) (by omega)) (H o)
    · obtain ⟨e, rfl⟩ : ∃ q, e = q + 1 := ⟨e - 1, by omega⟩
      rcases hm with ⟨rfl, _⟩ | ⟨_, q, _⟩
      · exact br_c (fun _ => H o) (fun _ => br_t rfl (H o))
      · omega
  | succ d ih =>
    intro k s hd
    have hk : k < tg_fac n := by omega
    have hk1 : k + 1 < tg_fac n := by omega
    have hp := tg_hp h1 h7 hk1
    by_cases Q : s ≤ tg_fo c (tg_un n (k + 1)) g n 0 0
    · obtain ⟨r, hX, hY⟩ := ih (k + 1) s (by omega)
      refine ⟨r, fun post o e hO he H => ?_, fun post o m e hm he H => ?_⟩
      · obtain ⟨e, rfl⟩ : ∃ q, e = q + 1 := ⟨e - 1, by omega⟩
        refine br_f (nI_ge hk1 (by omega)) ?_
        refine tx_next h1 h7 hk hO (fun o' ho' => ?_)
        refine tx_fo h7 hg (ho' hk1) hp ?_
        exact br_t Q (nm_r (nI_1 (k + 1)) (hX post o' e (ho' hk1) (by omega) H))
      · obtain ⟨e, rfl⟩ : ∃ q, e = q + 1 := ⟨e - 1, by omega⟩
        rcases hm with ⟨_, q⟩ | ⟨rfl, _, hO⟩
        · omega
        · refine br_f (nI_ge (b := 5040) (by omega) (by omega)) (br_f tg_10 ?_)
          refine ty_fo h7 hg hO hp ?_
          refine br_t Q ?_
          unfold wY_leastForm_60
          refine ty_next h1 h7 hk1 hO (fun q o' ho' => ?_) (fun q o' => ?_)
          · exact nm_r (nI_1 k) (hY post o' 1 e (Or.inr ⟨rfl, by omega, ho'⟩) (by omega) H)
          · exact nm_r (nI_1 k) (hY post o' 0 e (Or.inl ⟨rfl, by omega⟩) (by omega) H)
    · obtain ⟨r, hX, hY⟩ := ih (k + 1) (tg_fo c (tg_un n (k + 1)) g n 0 0) (by omega)
      refine ⟨r, fun post o e hO he H => ?_, fun post o m e hm he H => ?_⟩
      · obtain ⟨e, rfl⟩ : ∃ q, e = q + 1 := ⟨e - 1, by omega⟩
        refine br_f (nI_ge hk1 (by omega)) ?_
        refine tx_next h1 h7 hk hO (fun o' ho' => ?_)
        refine tx_fo h7 hg (ho' hk1) hp ?_
        exact br_f Q (nm_r (nI_1 (k + 1)) (hX post o' e (ho' hk1) (by omega) H))
      · obtain ⟨e, rfl⟩ : ∃ q, e = q + 1 := ⟨e - 1, by omega⟩
        rcases hm with ⟨_, q⟩ | ⟨rfl, _, hO⟩
        · omega
        · refine br_f (nI_ge (b := 5040) (by omega) (by omega)) (br_f tg_10 ?_)
          refine ty_fo h7 hg hO hp ?_
          refine br_f Q ?_
          unfold wY_leastForm_60
          refine ty_next h1 h7 hk1 hO (fun q o' ho' => ?_) (fun q o' => ?_)
          · exact nm_r (nI_1 k) (hY post o' 1 e (Or.inr ⟨rfl, by omega, ho'⟩) (by omega) H)
          · exact nm_r (nI_1 k) (hY post o' 0 e (Or.inl ⟨rfl, by omega⟩) (by omega) H)
