/-! the class's walk keeps to AW: a hart, all harts -/
def ac (P : Nat → Nat → Nat → Nat) (h : Nat) : Nat → Nat → Nat
  | _, 0 => 0
  | i, d + 1 => b2n (decide (P h i 0 < 6)) + ac P h (i + 1) d
theorem ac_skip (P : Nat → Nat → Nat → Nat) (h m : Nat) : ∀ d i, ac P h (i + d) (m - (i + d)) ≤ ac P h i (m - i)
  | 0, i => Nat.le_refl _
  | d + 1, i => by
    have h1 := ac_skip P h m d (i + 1)
    rw [show i + (d + 1) = i + 1 + d by omega]
    refine Nat.le_trans h1 ?_
    rcases Nat.lt_or_ge i m with q | q
    · rw [show m - i = (m - (i + 1)) + 1 by omega, ac]; omega
    · rw [show m - (i + 1) = 0 by omega, ac]; exact Nat.zero_le _
theorem step_cnt {mo : Nat} {u : Nat → Nat} {h : Nat} {σ : AW} {g : Nat} (hg : GR u) : (aStep mo u h σ g).1 7 0 ≤ σ 7 0 + b2n (decide (u 0 < 6)) ∧ (aStep mo u h σ g).1 5 0 ≤ σ 5 0 + b2n (decide (u 0 < 6)) := by
  have l5 : ∀ (τ : AW), aAcc mo u h τ g 5 0 = τ 5 0 := fun τ => aAcc_lo (by decide) (by decide) (by decide) (by decide) (by decide) (by decide)
  have l50 : ∀ (τ : AW), aAcc mo u h τ 0 5 0 = τ 5 0 := fun τ => aAcc_lo (by decide) (by decide) (by decide) (by decide) (by decide) (by decide)
  unfold aStep
  by_cases k10 : u 0 = 10
  · rw [if_pos k10]; simp [su_g]
  rw [if_neg k10]
  by_cases k6 : u 0 = 6
  · rw [if_pos k6]; unfold aFence; simp [su_g]
  rw [if_neg k6]
  by_cases k7 : u 0 = 7
  · rw [if_pos k7]; simp [su_g, aSet]
  rw [if_neg k7]
  by_cases k8 : u 0 = 8
  · rw [if_pos k8]; simp [su_g, aSet]
  rw [if_neg k8]
  by_cases k9 : u 0 = 9
  · rw [if_pos k9]; simp [su_g, aSet]
  rw [if_neg k9]
  have hk : u 0 < 6 := by rcases hg with ⟨q, -⟩ | ⟨q, -⟩ | ⟨q, -⟩ | ⟨q, -⟩ | ⟨q, -⟩ | ⟨q, -⟩ <;> omega
  have hb : b2n (decide (u 0 < 6)) = 1 := by simp [b2n, hk]
  rw [hb]
  by_cases k5 : u 0 = 5
  · rw [if_pos k5]
    split
    · split
      · simp [su_g, aSet, aCh]
      · simp only [su_g]
        simp only [show ¬ ((7 : Nat) = 11 ∧ (0 : Nat) = 0) by decide, show ¬ ((5 : Nat) = 11 ∧ (0 : Nat) = 0) by decide, if_false, aAcc_7, l50]
        simp [aCh, su_g]
    · simp [su_g, aSet]
  rw [if_neg k5]
  split
  · simp only [aAcc_7, l5]; simp [aCh, su_g]
  · simp only [aAcc_7, l5]; simp
theorem hart_all {mo : Nat} {P : Nat → Nat → Nat → Nat} {L ch : Nat → Nat} {h : Nat} {R : Nat} (hP : ∀ i, i < L h → GR (P h i)) (hch : ∀ j, ch j < 4) : ∀ (f i : Nat) (σ : AW), IN σ h → σ 7 0 + ac P h i (L h - i) + R ≤ 6 → σ 5 0 + ac P h i (L h - i) + R ≤ 6 → IN (aHart mo P L ch h f i σ) h ∧ aHart mo P L ch h f i σ 7 0 + R ≤ 6 ∧ aHart mo P L ch h f i σ 5 0 + R ≤ 6
  | 0, i, σ, hI, h7, h5 => ⟨hI, by show σ 7 0 + R ≤ 6; omega, by show σ 5 0 + R ≤ 6; omega⟩
  | f + 1, i, σ, hI, h7, h5 => by
    rw [aHart]
    by_cases hi : i < L h
    · rw [if_pos hi]
      have hg := hP i hi
      have hac : ac P h i (L h - i) = b2n (decide (P h i 0 < 6)) + ac P h (i + 1) (L h - (i + 1)) := by rw [show L h - i = (L h - (i + 1)) + 1 by omega, ac]
      have hc : P h i 0 < 6 → σ 7 0 < 6 ∧ σ 5 0 < 6 := by
        intro q
        have : b2n (decide (P h i 0 < 6)) = 1 := by simp [b2n, q]
        omega
      have hsk := ac_skip P h (L h) (aStep mo (P h i) h σ (ch (σ 5 0))).2 (i + 1)
      obtain ⟨q7, q5⟩ := step_cnt (mo := mo) (h := h) (σ := σ) (g := ch (σ 5 0)) hg
      exact hart_all hP hch f _ _ (IN_step hI hg hc (hch _)) (by omega) (by omega)
    · rw [if_neg hi]
      exact ⟨hI, by omega, by omega⟩
def PR (P : Nat → Nat → Nat → Nat) (L : Nat → Nat) (S : St) : Prop :=
  (∀ h, h < 4 → S.1 20 h = nI (L h) ∧ L h ≤ 6) ∧ (∀ h, h < 4 → ∀ i, i < L h → GR (P h i) ∧ ∀ j, j < 6 → S.2.1 (6 * h + i) j = dcK (P h i 0) j (P h i j)) ∧ ac P 0 0 (L 0) + ac P 1 0 (L 1) + ac P 2 0 (L 2) + ac P 3 0 (L 3) ≤ 6
def RCw (mo K : Nat) (ch l0 : Nat → Nat) (S0 : St) (σ : AW) (S : St) : Prop :=
  (∀ v i, um v = true → S.1 v i = S0.1 v i) ∧ S.2 = S0.2 ∧ S.1 8 0 = nI mo ∧ S.1 5 0 = nI (σ 5 0) ∧ S.1 7 0 = nI (σ 7 0) ∧
  (∀ k, k < 16 → S.1 24 k = nI (σ 24 k) ∧ S.1 25 k = nI (σ 25 k)) ∧ (∀ i, i < σ 7 0 → AF σ S i) ∧
  S.1 6 0 = nI K ∧ (∀ j, j < K → S.1 22 j = nI (ch j) ∧ S.1 23 j = nI (l0 j)) ∧ (∀ j, K ≤ j → ch j = 0) ∧ (∀ j, K ≤ j → j < σ 5 0 → S.1 22 j = 0 ∧ S.1 23 j = nI (σ 56 j))
theorem nu_6 {h i : Nat} : nI h * (6 : Int32) + nI i = nI (6 * h + i) := by
  rw [show (6 : Int32) = nI 6 from rfl, pk_mul, nI_add, Nat.mul_comm]
section SIM5
variable {mo K : Nat} {ch l0 : Nat → Nat} {S0 : St} {P : Nat → Nat → Nat → Nat} {L : Nat → Nat}
theorem c_hartLoop {h R : Nat} {Q : St → Prop} (hh : h < 4) (hPR : PR P L S0) (hK : K ≤ 6) (hmo : mo < 3) (hch : ∀ j, ch j < 4) : ∀ (f i : Nat) (σ : AW) (S : St), i ≤ 20 → L h < i + f → RC mo K ch l0 S0 σ S → IN σ h → σ 7 0 + ac P h i (L h - i) + R ≤ 6 → σ 5 0 + ac P h i (L h - i) + R ≤ 6 → (∀ S', RC mo K ch l0 S0 (aHart mo P L ch h f i σ) S' → Q S') →
    itr (F := Int32 → Int32 → St → Prop) (fun _ _ _ => False) (fun k52 x2 x3 S => bX5_walkHart_52 k52 Q x2 x3 S) (f + 1) (nI (L h)) (nI i) S := by
  have hL := (hPR.1 h hh).2
  intro f
  induction f with
  | zero =>
    intro i σ S hb hf hR hI h7 h5 hQ
    exact ⟨fun _ => hQ S hR, fun z => absurd (nI_le (by omega) (by omega)) z⟩
  | succ f ih =>
    intro i σ S hb hf hR hI h7 h5 hQ
    rw [aHart] at hQ
    by_cases hi : i < L h
    · rw [if_pos hi] at hQ
      obtain ⟨hg, hu⟩ := hPR.2.1 h hh i hi
      have hac : ac P h i (L h - i) = b2n (decide (P h i 0 < 6)) + ac P h (i + 1) (L h - (i + 1)) := by rw [show L h - i = (L h - (i + 1)) + 1 by omega, ac]
      have hc : P h i 0 < 6 → σ 7 0 < 6 ∧ σ 5 0 < 6 := by
        intro q
        have : b2n (decide (P h i 0 < 6)) = 1 := by simp [b2n, q]
        omega
      have hsk := ac_skip P h (L h) (aStep mo (P h i) h σ (ch (σ 5 0))).2 (i + 1)
      obtain ⟨q7, q5⟩ := step_cnt (mo := mo) (h := h) (σ := σ) (g := ch (σ 5 0)) hg
      have hI' := IN_step (mo := mo) hI hg hc (hch (σ 5 0))
      have hd : (aStep mo (P h i) h σ (ch (σ 5 0))).2 ≤ 5 := by
        unfold aStep
        have : P h i 0 = 10 → P h i 2 < 6 := by
          intro q
          rcases hg with ⟨z, -⟩ | ⟨z, -⟩ | ⟨z, -⟩ | ⟨z, -⟩ | ⟨z, -⟩ | ⟨z, a, b, c⟩ <;> omega
        repeat' split
        all_goals (try exact Nat.zero_le _)
        rename_i q _
        have := this q
        omega
      have row0 : ∀ T : St, T.2 = S0.2 → T.2.1 (6 * h + i) 0 = nI (P h i 0) := by
        intro T eT
        rw [eT, hu 0 (by decide)]
        unfold dcK; rw [if_neg]
        unfold yK; split
        · omega
        · split <;> omega
      have hk11 : P h i 0 < 11 := by rcases hg with ⟨q, -⟩ | ⟨q, -⟩ | ⟨q, -⟩ | ⟨q, -⟩ | ⟨q, -⟩ | ⟨q, -⟩ <;> omega
      have c9 : S.1 9 0 = nI h := by rw [hR.2.2.2.1.2.2.1, hI.2.1]
      refine ⟨fun z => absurd ((nI_leI (by omega) (by omega)).mp z) (by omega), fun _ => ?_⟩
      unfold pX4_row
      rw [c9, nu_6]
      refine ⟨nu_in (by omega) (by decide), fun i3 e3 => ?_⟩
      rw [nu_cl (by omega)] at e3
      subst e3
      rw [row0 S hR.2.1]
      refine ⟨fun z => ?_, fun z => ?_⟩
      · have h10 : P h i 0 ≠ 10 := fun q => z (by rw [q]; rfl)
        refine c_step hR hI hK hmo hch hu hg h10 hc (fun S' hS' y1 e1 => ?_)
        have hd0 : (aStep mo (P h i) h σ (ch (σ 5 0))).2 = 0 := by
          unfold aStep
          rw [if_neg h10]
          repeat' split
          all_goals rfl
        rw [hd0] at hQ hsk
        rw [e1, nI_1]
        exact ih (i + 1) _ S' (by omega) (by omega) hS' hI' (by omega) (by omega) hQ
      · have h10 : P h i 0 = 10 := (nI_eq (b := 10) (by omega) (by decide)).mp z
        have gg : P h i 1 < 4 ∧ P h i 2 < 6 := by rcases hg with ⟨q, -⟩ | ⟨q, -⟩ | ⟨q, -⟩ | ⟨q, -⟩ | ⟨q, -⟩ | ⟨q, a, b, c⟩ <;> omega
        have es : aStep mo (P h i) h σ (ch (σ 5 0)) = (su σ 12 0 (σ 12 0 ||| σ 25 (4 * h + P h i 1)), if σ 24 (4 * h + P h i 1) = 0 then P h i 2 else 0) := by unfold aStep; rw [if_pos h10]
        refine c_leftOut hR hI hu h10 gg.1 (fun S' hS' y7 e7 y1 e1 => ?_)
        rw [e1, e7, nI_add, nI_1]
        rw [es] at hQ hsk hI' q7 q5 hd
        dsimp only at hQ hsk hI' q7 q5 hd
        have := ih (i + 1 + (if σ 24 (4 * h + P h i 1) = 0 then P h i 2 else 0)) _ S' (by omega) (by omega) hS' hI' (by omega) (by omega) hQ
        rw [show i + (if σ 24 (4 * h + P h i 1) = 0 then P h i 2 else 0) + 1 = i + 1 + (if σ 24 (4 * h + P h i 1) = 0 then P h i 2 else 0) by omega]
        exact this
    · rw [if_neg hi] at hQ
      exact ⟨fun _ => hQ S hR, fun z => absurd (nI_le (by omega) (by omega)) z⟩
theorem IN_beg {σ : AW} {h : Nat} (hh : h < 4) (h7 : σ 7 0 ≤ 6) (h5 : σ 5 0 ≤ 6) (hv : ∀ k, k < 16 → σ 24 k < 4 ∧ σ 25 k < 64) (ha : ∀ i, i < σ 7 0 → AI σ i) : IN (aBeg σ h) h := by
  refine ⟨hh, by simp [aBeg, su_g], by simp [aBeg, su_g], by simpa [aBeg, su_g] using h7, by simpa [aBeg, su_g] using hv, by simp [aBeg, su_g], by simp [aBeg, su_g], by simpa [aBeg, su_g, AI] using ha, by simpa [aBeg, su_g] using h5⟩
theorem c_hart {h R : Nat} {σ : AW} {S : St} {Q : St → Prop} (hh : h < 4) (hPR : PR P L S0) (hK : K ≤ 6) (hmo : mo < 3) (hch : ∀ j, ch j < 4) (hR : RCw mo K ch l0 S0 σ S) (hI : IN (aBeg σ h) h) (h7 : σ 7 0 + ac P h 0 (L h) + R ≤ 6) (h5 : σ 5 0 + ac P h 0 (L h) + R ≤ 6)
    (hQ : ∀ S', RCw mo K ch l0 S0 (aHt mo P L ch σ h) S' → Q S') : pX5_walkHart (nI h) S Q := by
  have hL := (hPR.1 h hh)
  intro S10 e10 S11 e11 S12 e12 S13 e13 S14 e14 S15 e15 S16 e16
  have hR16 : RC mo K ch l0 S0 (aBeg σ h) S16 := by
    obtain ⟨h1, h2, h3, c5, c7, g5, h6, g7, h8, h9, h10⟩ := hR
    have e : S16 = wr (wr (wr (wr (wr (wr (wr S 9 0 (nI h)) 10 0 (S.1 7 0)) 11 0 (-1)) 12 0 0) 13 0 0) 14 0 0) 15 0 0 := by
      rw [e16, e15, e14, e13, e12, e11, e10]; simp [wr_1]
    rw [e]
    refine ⟨fun w i hu => by rw [um_ne hu rfl, um_ne hu rfl, um_ne hu rfl, um_ne hu rfl, um_ne hu rfl, um_ne hu rfl, um_ne hu rfl]; exact h1 w i hu, h2, by simpa [wr_1] using h3, ?_, by simpa [wr_1, su_g, aBeg] using g5, by simpa [wr_1, su_g, AF, aBeg] using h6, by simpa [wr_1] using g7, by simpa [wr_1] using h8, h9, by simpa [wr_1, su_g, aBeg] using h10⟩
    simp [wr_1, su_g, aBeg, c5, c7, nI_0]
  have c9 : S16.1 9 0 = nI h := by rw [hR16.2.2.2.1.2.2.1]; simp [aBeg, su_g]
  have c20 : S16.1 20 h = nI (L h) := by rw [hR16.1 20 h rfl]; exact hL.1
  rw [c9]
  unfold pX4_length
  rw [nu_cl (by omega), c20]
  refine ⟨nu_in hh (by decide), 8, ?_⟩
  refine c_hartLoop hh hPR hK hmo hch 7 0 (aBeg σ h) S16 (by omega) (by omega) hR16 hI (by simp only [aBeg, su_g]; simpa using h7) (by simp only [aBeg, su_g]; simpa using h5) (fun S' hS' => hQ S' ?_)
  obtain ⟨h1, h2, h3, ⟨c5, c7, -⟩, g5, h6, g7, h8, h9, h10⟩ := hS'
  exact ⟨h1, h2, h3, c5, c7, g5, h6, g7, h8, h9, h10⟩
end SIM5
