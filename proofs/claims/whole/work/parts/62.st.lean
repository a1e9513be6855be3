/-! the two objects between calls; the calls that keep programs as they are -/
/-- instructions of a sort, of one hart, of those before i -/
def cm (q : Nat → Bool) (P : Nat → Nat → Nat → Nat) (h : Nat) : Nat → Nat
  | 0 => 0
  | i + 1 => cm q P h i + b2n (q (P h i 0))
def cmR (q : Nat → Bool) (P : Nat → Nat → Nat → Nat) (L : Nat → Nat) : Nat → Nat
  | 0 => 0
  | h + 1 => cmR q P L h + cm q P h (L h)
theorem ac_app (P : Nat → Nat → Nat → Nat) (h : Nat) : ∀ d i, ac P h i (d + 1) = ac P h i d + b2n (decide (P h (i + d) 0 < 6))
  | 0, i => by simp [ac]
  | d + 1, i => by rw [ac, ac_app P h d (i + 1), ac, show i + 1 + d = i + (d + 1) by omega]; omega
theorem ac_cm (P : Nat → Nat → Nat → Nat) (h : Nat) : ∀ m, ac P h 0 m = cm (fun k => decide (k < 6)) P h m
  | 0 => rfl
  | m + 1 => by rw [ac_app, ac_cm P h m, cm, Nat.zero_add]
theorem acR_cm {P : Nat → Nat → Nat → Nat} {L : Nat → Nat} : acR P L 0 = cmR (fun k => decide (k < 6)) P L 4 := by
  rw [cmR, cmR, cmR, cmR, cmR, ← ac_cm, ← ac_cm, ← ac_cm, ← ac_cm]
  show ac P 0 0 (L 0) + ac P 1 0 (L 1) + ac P 2 0 (L 2) + ac P 3 0 (L 3) = _
  omega
theorem cm_le (q : Nat → Bool) (P : Nat → Nat → Nat → Nat) (h : Nat) : ∀ m, cm q P h m ≤ m
  | 0 => Nat.le_refl _
  | m + 1 => by
    have := cm_le q P h m
    have := b2n_le (q (P h m 0))
    rw [cm]; omega
theorem cmR_le {q : Nat → Bool} {P : Nat → Nat → Nat → Nat} {L : Nat → Nat} (hL : ∀ h, h < 4 → L h ≤ 6) : ∀ h, h ≤ 4 → cmR q P L h ≤ 6 * h
  | 0, _ => Nat.le_refl _
  | h + 1, hh => by
    have := cmR_le (q := q) (P := P) hL h (by omega)
    have := cm_le q P h (L h)
    have := hL h (by omega)
    rw [cmR]; omega
def OKA (mo : Nat) (P : Nat → Nat → Nat → Nat) (L : Nat → Nat) : Prop := mo < 3 ∧ PP P L ∧ cmR rdK P L 4 ≤ 4
/-- the class between calls -/
def XI (mo : Nat) (P : Nat → Nat → Nat → Nat) (L : Nat → Nat) (fo : Bool) (n : Nat) (S : St) : Prop :=
  S.1 0 0 = nI mo ∧ PR P L S ∧ S.1 3 0 = nI (cmR (fun k => decide (k < 6)) P L 4) ∧ S.1 4 0 = nI (cmR rdK P L 4) ∧ S.1 2 0 = zI fo ∧ IsC n ∧ (fo = true → KR S (FN mo P L).1 ∧ S.1 1 0 = nI (FN mo P L).2 ∧ (FN mo P L).1.length ≤ n)
/-- the reference between calls -/
def MI (mo : Nat) (P : Nat → Nat → Nat → Nat) (L : Nat → Nat) (fo : Bool) (T : St) : Prop :=
  T.1 0 0 = nI mo ∧ PM P L T ∧ T.1 3 0 = zI fo ∧ (fo = true → KM T (FN mo P L).1 ∧ T.1 6 0 = nI (FN mo P L).2)
section ST
variable {mo : Nat} {P : Nat → Nat → Nat → Nat} {L : Nat → Nat} {fo : Bool} {n : Nat} {S T : St}
theorem i_neg {x : Int32} : x < 0 ↔ x.toInt < 0 := by
  rw [Int32.lt_iff_toInt_lt]
  have : (0 : Int32).toInt = 0 := by decide
  rw [this]
theorem i_num {x : Int32} (h : ¬ x < 0) : x = nI x.toNatClampNeg ∧ x.toNatClampNeg < 2 ^ 31 :=
  ⟨(Int32.ofNat_toNatClampNeg x (Int32.not_lt.mp h)).symm, Int32.toNatClampNeg_lt x⟩
theorem i_ltn {x : Int32} {k : Nat} (h : ¬ x < 0) (hk : k < 2 ^ 31) : x < nI k ↔ x.toNatClampNeg < k := by
  obtain ⟨e, b⟩ := i_num h
  generalize x.toNatClampNeg = m at e b ⊢
  subst e
  exact nI_ltI b hk
theorem i_nlt {x : Int32} {k : Nat} (h : ¬ x < 0) (hk : k < 2 ^ 31) : nI k < x ↔ k < x.toNatClampNeg := by
  obtain ⟨e, b⟩ := i_num h
  generalize x.toNatClampNeg = m at e b ⊢
  subst e
  exact nI_ltI hk b
theorem i_nle {x : Int32} {k : Nat} (h : ¬ x < 0) (hk : k < 2 ^ 31) : nI k ≤ x ↔ k ≤ x.toNatClampNeg := by
  obtain ⟨e, b⟩ := i_num h
  generalize x.toNatClampNeg = m at e b ⊢
  subst e
  exact nI_leI hk b
theorem m_in {x lo hi : Int32} {Q : Int32 → Prop} (hT : ¬ x < lo → ¬ hi < x → Q 1) (hF : (x < lo ∨ hi < x) → Q 0) : pX7_in x lo hi Q :=
  ⟨fun z => ⟨zb_0, hF (Or.inl z)⟩, fun z => ⟨fun z2 => ⟨zb_0, hF (Or.inr z2)⟩, fun z2 => ⟨zb_1, hT z z2⟩⟩⟩
/-- a number of the range 0 .. k - 1, or not -/
theorem i_rng {x : Int32} {k : Nat} (hk : k < 2 ^ 31) : (x < 0 ∨ nI k ≤ x) ∨ ∃ a, x = nI a ∧ a < k := by
  by_cases h : x < 0
  · exact Or.inl (Or.inl h)
  · obtain ⟨e, b⟩ := i_num h
    by_cases h2 : nI k ≤ x
    · exact Or.inl (Or.inr h2)
    · rw [i_nle h hk] at h2
      exact Or.inr ⟨x.toNatClampNeg, e, by omega⟩
def tt : Nat → Bool := fun _ => true
theorem cm_tt : ∀ m (h : Nat), cm tt P h m = m
  | 0, _ => rfl
  | m + 1, h => by rw [cm, cm_tt m h]; rfl
def STEP {R : Type} (mo : Nat) (P : Nat → Nat → Nat → Nat) (L : Nat → Nat) (fo : Bool) (pc : Nat → St → (R → St → Prop) → Prop) (pm : St → (R → St → Prop) → Prop) : Prop :=
  ∃ (r : R) (mo' : Nat) (P' : Nat → Nat → Nat → Nat) (L' : Nat → Nat) (fo' : Bool), OKA mo' P' L' ∧ (∀ n S, XI mo P L fo n S → pc n S (fun r' S' => r' = r ∧ XI mo' P' L' fo' n S')) ∧ (∀ T, MI mo P L fo T → pm T (fun r' T' => r' = r ∧ MI mo' P' L' fo' T'))
theorem STEP_k {R : Type} {pc : Nat → St → (R → St → Prop) → Prop} {pm : St → (R → St → Prop) → Prop} (hA : OKA mo P L) (r : R) (h1 : ∀ n S, XI mo P L fo n S → ∀ Q : R → St → Prop, Q r S → pc n S Q) (h2 : ∀ T, MI mo P L fo T → ∀ Q : R → St → Prop, Q r T → pm T Q) : STEP mo P L fo pc pm :=
  ⟨r, mo, P, L, fo, hA, fun n S h => h1 n S h _ ⟨rfl, h⟩, fun T h => h2 T h _ ⟨rfl, h⟩⟩
theorem c_size {Q : Int32 → St → Prop} (h : PR P L S) (hQ : Q (nI (cmR tt P L 4)) S) : pX4_size S Q := by
  have loop : ∀ d h', h' + d = 4 → itr (F := Int32 → Int32 → Int32 → St → Prop) (fun _ _ _ _ => False) (fun k13 x1 x3 x4 S => bX4_size_13 k13 Q x1 x3 x4 S) (d + 1) (nI (cmR tt P L h')) (4 : Int32) (nI h') S := by
    intro d
    induction d with
    | zero =>
      intro h' e
      have : h' = 4 := by omega
      subst this
      exact ⟨fun _ => hQ, fun z => absurd (by decide) z⟩
    | succ d ih =>
      intro h' e
      refine ⟨fun z => ?_, fun _ => ⟨nu_in (by omega) (by decide), fun y2 e2 y3 e3 y4 e4 => ?_⟩⟩
      · rw [nu_4, nI_leI (by decide) (by omega)] at z; omega
      · rw [nu_cl (by omega), (h.1 h' (by omega)).1] at e2
        rw [e4, e3, e2, nI_1, nI_add]
        have := ih (h' + 1) (by omega)
        rw [cmR, cm_tt] at this
        exact this
  exact ⟨5, loop 4 0 (by decide)⟩
theorem OKA_0 (hmo : mo < 3) : OKA mo P (fun _ => 0) := ⟨hmo, ⟨fun _ _ => Nat.zero_le _, fun h _ i hi => absurd hi (Nat.not_lt_zero _), by rw [acR_cm]; exact Nat.zero_le _⟩, Nat.zero_le _⟩
theorem st_clear (hA : OKA mo P L) : STEP mo P L fo (fun _ S Q => pX6_clear S Q) (fun T Q => pX7_clear T Q) := by
  refine ⟨nI (cmR tt P L 4), mo, P, fun _ => 0, false, OKA_0 hA.1, fun n S h => ?_, fun T h => ?_⟩
  · obtain ⟨h0, h1, h2, h3, h4, h5, h6⟩ := h
    intro S1 e1
    refine c_size (PR_c h1 (fun i => by rw [e1, wr_1, if_neg (by decide)]) (by rw [e1]; rfl)) ?_
    refine c_fill_4_lengths (fun S3 f1 f2 f3 S4 e4 S5 e5 => ⟨rfl, ?_⟩)
    have g : ∀ v i, v ≠ 2 → v ≠ 3 → v ≠ 4 → v ≠ 20 → S5.1 v i = S.1 v i := fun v i a b c d => by rw [e5, wr_1, if_neg c, e4, wr_1, if_neg b, f1 v i d, e1, wr_1, if_neg a]
    refine ⟨by rw [g 0 0 (by decide) (by decide) (by decide) (by decide)]; exact h0, ⟨fun h' hh => ⟨?_, Nat.zero_le _⟩, fun h' _ i hi => absurd hi (Nat.not_lt_zero _), (OKA_0 (P := P) hA.1).2.1.2.2⟩, ?_, ?_, ?_, h5, fun q => by cases q⟩
    · rw [e5, wr_1, if_neg (by decide), e4, wr_1, if_neg (by decide), f3 h' hh]; rfl
    · rw [e5, wr_1, if_neg (by decide), e4, wr_1, if_pos rfl, if_pos rfl]; rfl
    · rw [e5, wr_1, if_pos rfl, if_pos rfl]; rfl
    · rw [e5, wr_1, if_neg (by decide), e4, wr_1, if_neg (by decide), f1 2 0 (by decide), e1, wr_1, if_pos rfl, if_pos rfl]; rfl
  · obtain ⟨h0, h1, h2, h3⟩ := h
    have loop : ∀ d h' (T1 : St), h' + d = 4 → (∀ v i, v ≠ 2 → T1.1 v i = T.1 v i) → (∀ j, j < h' → T1.1 2 j = 0) → (∀ j, h' ≤ j → T1.1 2 j = T.1 2 j) → T1.2 = T.2 → itr (F := Int32 → Int32 → St → Prop) (fun _ _ _ => False) (fun k4 x1 x2 S => bX7_clear_4 k4 (fun r' T' => r' = nI (cmR tt P L 4) ∧ MI mo P (fun _ => 0) false T') x1 x2 S) (d + 1) (nI (cmR tt P L h')) (nI h') T1 := by
      intro d
      induction d with
      | zero =>
        intro h' T1 e g1 g2 g3 g4
        have : h' = 4 := by omega
        subst this
        refine ⟨fun _ S1 e1 => ⟨rfl, ?_⟩, fun z => absurd (by decide) z⟩
        refine ⟨by rw [e1, wr_1, if_neg (by decide), g1 0 0 (by decide)]; exact h0, ⟨fun h' hh => ⟨?_, Nat.zero_le _⟩, fun h' _ i hi => absurd hi (Nat.not_lt_zero _), (OKA_0 (P := P) hA.1).2.1.2.2⟩, ?_, fun q => by cases q⟩
        · rw [e1, wr_1, if_neg (by decide), g2 h' hh]; rfl
        · rw [e1, wr_1, if_pos rfl, if_pos rfl]; rfl
      | succ d ih =>
        intro h' T1 e g1 g2 g3 g4
        have hi : vp_in (nI h') 4 := nu_in (by omega) (by decide)
        refine ⟨fun z => ?_, fun _ => ⟨hi, fun y3 e3 => ⟨hi, fun T2 e2 y6 e6 => ?_⟩⟩⟩
        · rw [nu_4, nI_leI (by decide) (by omega)] at z; omega
        · rw [nu_cl (by omega)] at e3 e2
          rw [g3 h' (Nat.le_refl _), (h1.1 h' (by omega)).1, nI_add] at e3
          rw [e6, e3, nI_1]
          have := ih (h' + 1) T2 (by omega) (fun v i hv => by rw [e2, wr_1, if_neg hv]; exact g1 v i hv) (fun j hj => ?_) (fun j hj => ?_) (by rw [e2]; exact g4)
          · rw [show cmR tt P L (h' + 1) = cmR tt P L h' + L h' from by rw [cmR, cm_tt]] at this; exact this
          · rw [e2, wr_1, if_pos rfl]
            by_cases q : j = h'
            · rw [if_pos q]
            · rw [if_neg q]; exact g2 j (by omega)
          · rw [e2, wr_1, if_pos rfl, if_neg (by omega)]; exact g3 j (by omega)
    exact ⟨5, loop 4 0 T (by decide) (fun _ _ _ => rfl) (fun j h => absurd h (Nat.not_lt_zero _)) (fun _ _ => rfl) rfl⟩
theorem st_model {x1 : Int32} (hA : OKA mo P L) : STEP mo P L fo (fun _ S Q => pX6_model x1 S Q) (fun T Q => pX7_model x1 T Q) := by
  rcases i_rng (x := x1) (k := 3) (by decide) with hx | ⟨a, ea, ha⟩
  · refine STEP_k hA (-2) (fun n S h Q hQ => ⟨fun _ => hQ, fun z => ⟨fun z2 => ?_, fun _ => hQ⟩⟩) (fun T h Q hQ => m_in (fun a b => ?_) (fun _ => ⟨fun y => absurd rfl y, fun _ => hQ⟩))
    · rcases hx with q | q
      · exact absurd q z
      · exact absurd q (Int32.not_le.mpr z2)
    · exfalso
      rcases hx with q | q
      · exact a q
      · rw [i_nle a (by decide)] at q
        have : ¬ nI 2 < x1 := b
        rw [i_nlt a (by decide)] at this
        omega
  · refine ⟨nI mo, a, P, L, false, ⟨ha, hA.2⟩, fun n S h => ?_, fun T h => ?_⟩
    · obtain ⟨h0, h1, h2, h3, h4, h5, h6⟩ := h
      rw [ea]
      refine ⟨fun z => absurd z (nI_pos (by omega)), fun _ => ⟨fun _ y1 e1 S2 e2 S3 e3 => ⟨by rw [e1]; exact h0, ?_⟩, fun z => absurd (nI_lt ha (by decide)) z⟩⟩
      have g : ∀ v i, v ≠ 0 → v ≠ 2 → S3.1 v i = S.1 v i := fun v i a b => by rw [e3, wr_1, if_neg b, e2, wr_1, if_neg a]
      refine ⟨by rw [e3, wr_1, if_neg (by decide), e2, wr_1, if_pos rfl, if_pos rfl], PR_c h1 (fun i => g 20 i (by decide) (by decide)) (by rw [e3, e2]; rfl), by rw [g 3 0 (by decide) (by decide)]; exact h2, by rw [g 4 0 (by decide) (by decide)]; exact h3, by rw [e3, wr_1, if_pos rfl, if_pos rfl]; rfl, h5, fun q => by cases q⟩
    · obtain ⟨h0, h1, h2, h3⟩ := h
      rw [ea]
      refine m_in (fun _ _ => ⟨fun _ y2 e2 S3 e3 S4 e4 => ⟨by rw [e2]; exact h0, ?_⟩, fun y => absurd y (by decide)⟩) (fun q => ?_)
      · have g : ∀ v i, v ≠ 0 → v ≠ 3 → S4.1 v i = T.1 v i := fun v i a b => by rw [e4, wr_1, if_neg b, e3, wr_1, if_neg a]
        refine ⟨by rw [e4, wr_1, if_neg (by decide), e3, wr_1, if_pos rfl, if_pos rfl], ⟨fun h' hh => by rw [g 2 h' (by decide) (by decide)]; exact h1.1 h' hh, fun h' hh i hi => ⟨(h1.2.1 h' hh i hi).1, fun j hj => by rw [g 1 _ (by decide) (by decide)]; exact (h1.2.1 h' hh i hi).2 j hj⟩, h1.2.2⟩, by rw [e4, wr_1, if_pos rfl, if_pos rfl]; rfl, fun q => by cases q⟩
      · exfalso
        rcases q with q | q
        · exact absurd q (nI_pos (by omega))
        · have : nI 2 < nI a := q
          rw [nI_ltI (by decide) (by omega)] at this; omega
theorem zI_fo {b : Bool} {x : Int32} (h : x = zI b) : (x = 0 ↔ b = false) := by rw [h]; exact zI_0 b
theorem st_outcome {x1 : Int32} (hA : OKA mo P L) : STEP mo P L fo (fun n S Q => pX6_outcome n x1 S Q) (fun T Q => pX7_outcome x1 T Q) := by
  obtain ⟨hb1, hb2, hb3⟩ := FN_b (mo := mo) hA.2.1
  cases fo with
  | false =>
    refine STEP_k hA (-1) (fun n S h Q hQ => ⟨fun _ => hQ, fun z => absurd h.2.2.2.2.1 z⟩) (fun T h Q hQ => ⟨fun _ => hQ, fun z => absurd h.2.2.1 z⟩)
  | true =>
    have nz : ¬ ((1 : Int32) = 0) := by decide
    rcases i_rng (x := x1) (k := (FN mo P L).1.length) (by omega) with hx | ⟨a, ea, ha⟩
    · refine STEP_k hA (-1) (fun n S h Q hQ => ?_) (fun T h Q hQ => ?_)
      · obtain ⟨h0, h1, h2, h3, h4, h5, h6⟩ := h
        obtain ⟨k1, k2, k3⟩ := h6 rfl
        refine ⟨fun z => absurd z (by rw [h4]; exact nz), fun _ => ⟨fun _ => hQ, fun z => ⟨fun _ => hQ, fun z2 => ?_⟩⟩⟩
        rw [k1.1] at z2
        rcases hx with q | q
        · exact absurd q z
        · exact absurd q z2
      · obtain ⟨h0, h1, h2, h3⟩ := h
        obtain ⟨k1, k2⟩ := h3 rfl
        refine ⟨fun z => absurd z (by rw [h2]; exact nz), fun _ => m_in (fun a b => ?_) (fun _ => ⟨fun _ => hQ, fun y => absurd rfl y⟩)⟩
        exfalso
        rw [k1.1] at b
        rcases hx with q | q
        · exact a q
        · rw [i_nle a (by omega)] at q
          obtain ⟨e, c⟩ := i_num a
          refine b (Int32.not_le.mp (fun w => ?_))
          rw [e, m1_ge (by omega) (by omega)] at w
          omega
    · refine STEP_k hA ((FN mo P L).1.getD a 0) (fun n S h Q hQ => ?_) (fun T h Q hQ => ?_)
      · obtain ⟨h0, h1, h2, h3, h4, h5, h6⟩ := h
        obtain ⟨k1, k2, k3⟩ := h6 rfl
        have n6 := (IsC_b h5).2
        rw [ea]
        refine ⟨fun z => absurd z (by rw [h4]; exact nz), fun _ => ⟨fun z => absurd z (nI_pos (by omega)), fun _ => ⟨fun z => ?_, fun _ => ⟨nu_in (by omega) (by omega), ?_⟩⟩⟩⟩
        · rw [k1.1, nI_leI (by omega) (by omega)] at z; omega
        · show Q (S.2.2 1 (nI a).toNatClampNeg) S
          rw [nu_cl (by omega), k1.2.1 a ha]; exact hQ
      · obtain ⟨h0, h1, h2, h3⟩ := h
        obtain ⟨k1, k2⟩ := h3 rfl
        rw [ea]
        refine ⟨fun z => absurd z (by rw [h2]; exact nz), fun _ => m_in (fun _ _ => ⟨fun y => absurd y (by decide), fun _ => ⟨nu_in (by omega) (by decide), ?_⟩⟩) (fun q => ?_)⟩
        · show Q (T.2.2 0 (nI a).toNatClampNeg) T
          rw [nu_cl (by omega), k1.2.1 a ha]; exact hQ
        · exfalso
          rw [k1.1] at q
          rcases q with q | q
          · exact absurd q (nI_pos (by omega))
          · have := Int32.not_le.mpr q
            rw [m1_ge (by omega) (by omega)] at this
            omega
theorem st_is {x1 : Int64} (hA : OKA mo P L) : STEP mo P L fo (fun n S Q => pX6_is n x1 S Q) (fun T Q => pX7_is x1 T Q) := by
  obtain ⟨hb1, hb2, hb3⟩ := FN_b (mo := mo) hA.2.1
  cases fo with
  | false =>
    refine STEP_k hA (-1) (fun n S h Q hQ => ⟨fun z => absurd h.2.2.2.2.1 z, fun _ => hQ⟩) (fun T h Q hQ => ⟨fun z => absurd h.2.2.1 z, fun _ => hQ⟩)
  | true =>
    have nz : ¬ ((1 : Int32) = 0) := by decide
    have hcl := cut_le x1 (FN mo P L).1
    refine STEP_k hA (zI (decide (cut x1 (FN mo P L).1 < (FN mo P L).1.length ∧ (FN mo P L).1.getD (cut x1 (FN mo P L).1) 0 = x1))) (fun n S h Q hQ => ?_) (fun T h Q hQ => ?_)
    · obtain ⟨h0, h1, h2, h3, h4, h5, h6⟩ := h
      obtain ⟨k1, k2, k3⟩ := h6 rfl
      have n6 := (IsC_b h5).2
      refine ⟨fun _ => c_spot k1.1 k3 n6 k1.2.1 k1.2.2 ?_, fun z => absurd z (by rw [h4]; exact nz)⟩
      have no : ¬ (cut x1 (FN mo P L).1 < (FN mo P L).1.length ∧ (FN mo P L).1.getD (cut x1 (FN mo P L).1) 0 = x1) → bX3_holds_29 n (fun r2 S1 => (r2 = 0 → bX6_is_25 n Q (0 : Int32) S1) ∧ (¬ (r2 = 0) → bX6_is_25 n Q (1 : Int32) S1)) S := by
        intro q
        rw [decide_eq_false q] at hQ
        exact ⟨zb_0, fun _ => hQ, fun y => absurd rfl y⟩
      refine ⟨fun z => no (fun q => ?_), fun z => ?_⟩
      · rw [k1.1, nI_leI (by omega) (by omega)] at z; omega
      · rw [k1.1, nI_leI (by omega) (by omega)] at z
        refine ⟨nu_in (by omega) (by omega), ?_⟩
        rw [nu_cl (by omega), k1.2.1 _ (by omega), lg_cmp_eq]
        refine ⟨fun z2 => no (fun q => z2 q.2), fun z2 => ⟨zb_1, fun y => absurd y (by decide), fun _ => ?_⟩⟩
        rw [decide_eq_true ⟨by omega, z2⟩] at hQ
        exact hQ
    · obtain ⟨h0, h1, h2, h3⟩ := h
      obtain ⟨k1, k2⟩ := h3 rfl
      refine ⟨fun _ => m_place k1.1 (by omega) k1.2.1 k1.2.2 ?_, fun z => absurd z (by rw [h2]; exact nz)⟩
      have no : ¬ (cut x1 (FN mo P L).1 < (FN mo P L).1.length ∧ (FN mo P L).1.getD (cut x1 (FN mo P L).1) 0 = x1) → bX7_is_38 Q T := by
        intro q
        rw [decide_eq_false q] at hQ
        exact hQ
      refine ⟨fun z => no (fun q => ?_), fun z => ?_⟩
      · rw [k1.1, nI_leI (by omega) (by omega)] at z; omega
      · rw [k1.1, nI_leI (by omega) (by omega)] at z
        refine ⟨nu_in (by omega) (by decide), ?_⟩
        rw [nu_cl (by omega), k1.2.1 _ (by omega), lg_cmp_eq]
        refine ⟨fun z2 => no (fun q => z2 q.2), fun z2 => ?_⟩
        rw [decide_eq_true ⟨by omega, z2⟩] at hQ
        exact hQ
end ST
