/-! what a way's accesses are to each other: steps, harts, the way -/
section HST
variable {mo : Nat} {h : Nat} {σ τ : AW}
theorem fenB_c {a b : Nat} (e51 : τ 51 0 = σ 51 0) (e : ∀ v i, 30 ≤ v → v ≤ 55 → τ v i = σ v i) : fenB τ a b ↔ fenB σ a b := by
  unfold fenB fnP
  simp only [e51, e 52 _ (by decide) (by decide), e 53 _ (by decide) (by decide), e 54 _ (by decide) (by decide), e 55 _ (by decide) (by decide), e 30 _ (by decide) (by decide), e 31 _ (by decide) (by decide)]
theorem HI_c (e7 : τ 7 0 = σ 7 0) (e10 : τ 10 0 = σ 10 0) (e13 : τ 13 0 = σ 13 0) (e14 : τ 14 0 = σ 14 0) (e15 : τ 15 0 = σ 15 0) (e : ∀ v i, 30 ≤ v → v ≤ 55 → τ v i = σ v i)
    (k2 : ∀ r, r < 4 → ∀ a, (τ 25 (4 * h + r)).testBit a = true → σ 10 0 ≤ a ∧ a < σ 7 0) (k2' : ∀ k, 4 * h + 4 ≤ k → k < 16 → τ 25 k = 0) (k6 : τ 11 0 ≠ 0 → σ 10 0 < τ 11 0 ∧ τ 11 0 ≤ σ 7 0 ∧ σ 31 (τ 11 0 - 1) = 4) (hH : HI mo σ h) : HI mo τ h := by
  obtain ⟨c1, c2, c2', c3, c4, c5, c6, c7, c8, c10⟩ := hH
  have fn : ∀ f a, fnP τ f a = fnP σ f a := by intro f a; unfold fnP; rw [e 31 a (by decide) (by decide)]
  refine ⟨?_, ?_, k2', ?_, ?_, ?_, ?_, ?_, ?_, ?_⟩
  · simp only [e7, e10, e 30 _ (by decide) (by decide)]; exact c1
  · simp only [e7, e10]; exact k2
  · simp only [e7, e10, e13, e 38 _ (by decide) (by decide)]; exact c3
  · simp only [e7, e10, e14, fn, e 51 _ (by decide) (by decide), e 52 _ (by decide) (by decide), e 53 _ (by decide) (by decide), e 54 _ (by decide) (by decide), e 55 _ (by decide) (by decide)]; exact c4
  · simp only [e7, e10, e15, fn, e 51 _ (by decide) (by decide), e 52 _ (by decide) (by decide), e 53 _ (by decide) (by decide), e 54 _ (by decide) (by decide), e 55 _ (by decide) (by decide)]; exact c5
  · simp only [e7, e10, e 31 _ (by decide) (by decide)]; exact k6
  · simp only [e7, e 51 _ (by decide) (by decide), e 52 _ (by decide) (by decide), e 53 _ (by decide) (by decide)]; exact c7
  · intro b hb
    rw [e7] at hb
    exact AB_c (fun v i a b _ => e v i a (by omega)) (fun a _ => fenB_c (e 51 0 (by decide) (by decide)) e) (c8 b hb)
  · simp only [e7, e 30 _ (by decide) (by decide)]; exact c10
theorem HI_12 {x : Nat} (hH : HI mo σ h) : HI mo (su σ 12 0 x) h := by
  have g : ∀ v i, v ≠ 12 → su σ 12 0 x v i = σ v i := fun v i a => by rw [su_g, if_neg (by omega)]
  refine HI_c (g _ _ (by decide)) (g _ _ (by decide)) (g _ _ (by decide)) (g _ _ (by decide)) (g _ _ (by decide)) (fun v i a b => g v i (by omega)) ?_ ?_ ?_ hH
  · simp only [g 25 _ (by decide)]; exact hH.2.1
  · simp only [g 25 _ (by decide)]; exact hH.2.2.1
  · simp only [g 11 _ (by decide)]; exact hH.2.2.2.2.2.2.1
theorem HI_11 (hH : HI mo σ h) : HI mo (su σ 11 0 0) h := by
  have g : ∀ v i, v ≠ 11 → su σ 11 0 0 v i = σ v i := fun v i a => by rw [su_g, if_neg (by omega)]
  refine HI_c (g _ _ (by decide)) (g _ _ (by decide)) (g _ _ (by decide)) (g _ _ (by decide)) (g _ _ (by decide)) (fun v i a b => g v i (by omega)) ?_ ?_ ?_ hH
  · simp only [g 25 _ (by decide)]; exact hH.2.1
  · simp only [g 25 _ (by decide)]; exact hH.2.2.1
  · intro q; exact absurd rfl q
theorem HI_ch {lim : Nat} (hH : HI mo σ h) : HI mo (aCh σ lim) h := by
  have g : ∀ v i, v ≠ 5 → v ≠ 56 → aCh σ lim v i = σ v i := fun v i a c => by unfold aCh; rw [su_g, if_neg (by omega), su_g, if_neg (by omega)]
  refine HI_c (g _ _ (by decide) (by decide)) (g _ _ (by decide) (by decide)) (g _ _ (by decide) (by decide)) (g _ _ (by decide) (by decide)) (g _ _ (by decide) (by decide)) (fun v i a b => g v i (by omega) (by omega)) ?_ ?_ ?_ hH
  · simp only [g 25 _ (by decide) (by decide)]; exact hH.2.1
  · simp only [g 25 _ (by decide) (by decide)]; exact hH.2.2.1
  · simp only [g 11 _ (by decide) (by decide)]; exact hH.2.2.2.2.2.2.1
theorem HI_set {r v c : Nat} (hr : r < 4) (hc : ∀ a, c.testBit a = true → σ 10 0 ≤ a ∧ a < σ 7 0) (hH : HI mo σ h) : HI mo (aSet σ h r v c) h := by
  have g : ∀ w i, w ≠ 24 → w ≠ 25 → aSet σ h r v c w i = σ w i := fun w i a b => by unfold aSet; rw [su_g, if_neg (by omega), su_g, if_neg (by omega)]
  have g25 : ∀ k, aSet σ h r v c 25 k = if k = 4 * h + r then c else σ 25 k := by intro k; unfold aSet; simp [su_g]
  refine HI_c (g _ _ (by decide) (by decide)) (g _ _ (by decide) (by decide)) (g _ _ (by decide) (by decide)) (g _ _ (by decide) (by decide)) (g _ _ (by decide) (by decide)) (fun v i a b => g v i (by omega) (by omega)) ?_ ?_ ?_ hH
  · intro q hq a ha
    rw [g25] at ha
    split at ha
    · exact hc a ha
    · exact hH.2.1 q hq a ha
  · intro k h1 h2
    rw [g25, if_neg (by omega)]
    exact hH.2.2.1 k h1 h2
  · simp only [g 11 _ (by decide) (by decide)]; exact hH.2.2.2.2.2.2.1
theorem HI_fence {f1 f2 : Nat} (hH : HI mo σ h) : HI mo (aFence σ h f1 f2) h := by
  obtain ⟨c1, c2, c2', c3, c4, c5, c6, c7, c8, c10⟩ := hH
  have e : ∀ v i, v ≠ 14 → v ≠ 15 → (v < 51 ∨ 55 < v) → aFence σ h f1 f2 v i = σ v i := by
    intro v i a b c
    unfold aFence
    simp only [su_g]
    repeat rw [if_neg (by omega)]
  have e14 : aFence σ h f1 f2 14 0 = σ 14 0 ||| (if f2.testBit 0 then msk (fnP σ f1) (σ 10 0) (σ 7 0) else 0) := by unfold aFence; simp [su_g]
  have e15 : aFence σ h f1 f2 15 0 = σ 15 0 ||| (if f2.testBit 1 then msk (fnP σ f1) (σ 10 0) (σ 7 0) else 0) := by unfold aFence; simp [su_g]
  have e51 : aFence σ h f1 f2 51 0 = σ 51 0 + 1 := by unfold aFence; simp [su_g]
  have e52 : ∀ f, aFence σ h f1 f2 52 f = if f = σ 51 0 then h else σ 52 f := by intro f; unfold aFence; simp [su_g]
  have e53 : ∀ f, aFence σ h f1 f2 53 f = if f = σ 51 0 then σ 7 0 else σ 53 f := by intro f; unfold aFence; simp [su_g]
  have e54 : ∀ f, aFence σ h f1 f2 54 f = if f = σ 51 0 then f1 else σ 54 f := by intro f; unfold aFence; simp [su_g]
  have e55 : ∀ f, aFence σ h f1 f2 55 f = if f = σ 51 0 then f2 else σ 55 f := by intro f; unfold aFence; simp [su_g]
  have e7 := e 7 0 (by decide) (by decide) (by decide)
  have e10 := e 10 0 (by decide) (by decide) (by decide)
  have fn : ∀ f a, fnP (aFence σ h f1 f2) f a = fnP σ f a := by intro f a; unfold fnP; rw [e 31 a (by decide) (by decide) (by decide)]
  have half : ∀ (x a : Nat) (t : Nat), (x.testBit a = true ↔ σ 10 0 ≤ a ∧ a < σ 7 0 ∧ ∃ f, f < σ 51 0 ∧ σ 52 f = h ∧ a < σ 53 f ∧ fnP σ (σ 54 f) a = true ∧ (σ 55 f).testBit t = true) → ((x ||| (if f2.testBit t then msk (fnP σ f1) (σ 10 0) (σ 7 0) else 0)).testBit a = true ↔ σ 10 0 ≤ a ∧ a < σ 7 0 ∧ ∃ f, f < σ 51 0 + 1 ∧ (if f = σ 51 0 then h else σ 52 f) = h ∧ a < (if f = σ 51 0 then σ 7 0 else σ 53 f) ∧ fnP σ (if f = σ 51 0 then f1 else σ 54 f) a = true ∧ (if f = σ 51 0 then f2 else σ 55 f).testBit t = true) := by
    intro x a t hx
    rw [Nat.testBit_or, Bool.or_eq_true, hx]
    constructor
    · rintro (⟨q1, q2, f, q3, q4, q5, q6, q7⟩ | q)
      · have z : ¬ f = σ 51 0 := by omega
        exact ⟨q1, q2, f, by omega, by rw [if_neg z]; exact q4, by rw [if_neg z]; exact q5, by rw [if_neg z]; exact q6, by rw [if_neg z]; exact q7⟩
      · by_cases w : f2.testBit t = true
        · rw [if_pos w, msk_bit, decide_eq_true_eq] at q
          exact ⟨q.1, q.2.1, σ 51 0, by omega, by rw [if_pos rfl], by rw [if_pos rfl]; exact q.2.1, by rw [if_pos rfl]; exact q.2.2, by rw [if_pos rfl]; exact w⟩
        · rw [if_neg w] at q; simp at q
    · rintro ⟨q1, q2, f, q3, q4, q5, q6, q7⟩
      by_cases z : f = σ 51 0
      · rw [if_pos z] at q4 q5 q6 q7
        right
        rw [if_pos q7, msk_bit, decide_eq_true_eq]
        exact ⟨q1, q2, q6⟩
      · rw [if_neg z] at q4 q5 q6 q7
        left
        exact ⟨q1, q2, f, by omega, q4, q5, q6, q7⟩
  refine ⟨?_, ?_, ?_, ?_, ?_, ?_, ?_, ?_, ?_, ?_⟩
  · simp only [e7, e10, e 30 _ (by decide) (by decide) (by decide)]; exact c1
  · simp only [e7, e10, e 25 _ (by decide) (by decide) (by decide)]; exact c2
  · simp only [e 25 _ (by decide) (by decide) (by decide)]; exact c2'
  · simp only [e7, e10, e 13 _ (by decide) (by decide) (by decide), e 38 _ (by decide) (by decide) (by decide)]; exact c3
  · intro a
    simp only [e7, e10, e14, e51, e52, e53, e54, e55, fn]
    exact half _ a 0 (c4 a)
  · intro a
    simp only [e7, e10, e15, e51, e52, e53, e54, e55, fn]
    exact half _ a 1 (c5 a)
  · simp only [e7, e10, e 11 _ (by decide) (by decide) (by decide), e 31 _ (by decide) (by decide) (by decide)]; exact c6
  · intro f hf
    rw [e51] at hf
    rw [e52, e53, e7]
    by_cases z : f = σ 51 0
    · rw [if_pos z, if_pos z]; exact ⟨Nat.le_refl _, Nat.le_refl _⟩
    · rw [if_neg z, if_neg z]; exact c7 f (by omega)
  · intro b hb
    rw [e7] at hb
    refine AB_c (σ := σ) (fun v i a b _ => e v i (by omega) (by omega) (by omega)) (fun a ha => ?_) (c8 b hb)
    unfold fenB
    simp only [e51, e52, e53, e54, e55, fn, e 30 _ (by decide) (by decide) (by decide)]
    constructor
    · rintro ⟨f, q1, q2, q3, q4, q5, q6⟩
      by_cases z : f = σ 51 0
      · rw [if_pos z] at q4; omega
      · rw [if_neg z] at q2 q3 q4 q5 q6
        exact ⟨f, by omega, q2, q3, q4, q5, q6⟩
    · rintro ⟨f, q1, q2, q3, q4, q5, q6⟩
      have z : ¬ f = σ 51 0 := by omega
      refine ⟨f, by omega, ?_, ?_, ?_, ?_, ?_⟩ <;> rw [if_neg z] <;> assumption
  · simp only [e7, e 30 _ (by decide) (by decide) (by decide)]; exact c10
theorem HI_step {u : Nat → Nat} {g : Nat} (hH : HI mo σ h) (hI : IN σ h) (hg : GR u) (hc : u 0 < 6 → σ 7 0 < 6 ∧ σ 5 0 < 6) (hgt : g < 4) : HI mo (aStep mo u h σ g).1 h := by
  have c2 := hH.2.1
  have z0 : ∀ a, (0 : Nat).testBit a = true → σ 10 0 ≤ a ∧ a < σ 7 0 := by intro a ha; simp at ha
  unfold aStep
  by_cases k10 : u 0 = 10
  · rw [if_pos k10]; exact HI_12 hH
  rw [if_neg k10]
  by_cases k6 : u 0 = 6
  · rw [if_pos k6]; exact HI_fence hH
  rw [if_neg k6]
  by_cases k7 : u 0 = 7
  · rw [if_pos k7]
    have : u 1 < 4 := by rcases hg with ⟨q, -⟩ | ⟨q, -⟩ | ⟨q, -⟩ | ⟨q, a, -⟩ | ⟨q, -⟩ | ⟨q, -⟩ <;> omega
    exact HI_set this z0 hH
  rw [if_neg k7]
  have two : (u 0 = 8 ∨ u 0 = 9) → ∀ a, (σ 25 (4 * h + u 2) ||| σ 25 (4 * h + u 3)).testBit a = true → σ 10 0 ≤ a ∧ a < σ 7 0 := by
    intro k a ha
    have : u 1 < 4 ∧ u 2 < 4 ∧ u 3 < 4 := by rcases hg with ⟨q, -⟩ | ⟨q, -⟩ | ⟨q, -⟩ | ⟨q, -⟩ | ⟨q, a, b, c⟩ | ⟨q, -⟩ <;> omega
    rw [Nat.testBit_or, Bool.or_eq_true] at ha
    rcases ha with q | q
    · exact c2 _ this.2.1 a q
    · exact c2 _ this.2.2 a q
  by_cases k8 : u 0 = 8
  · rw [if_pos k8]
    have : u 1 < 4 := by rcases hg with ⟨q, -⟩ | ⟨q, -⟩ | ⟨q, -⟩ | ⟨q, -⟩ | ⟨q, a, b, c⟩ | ⟨q, -⟩ <;> omega
    exact HI_set this (two (Or.inl k8)) hH
  rw [if_neg k8]
  by_cases k9 : u 0 = 9
  · rw [if_pos k9]
    have : u 1 < 4 := by rcases hg with ⟨q, -⟩ | ⟨q, -⟩ | ⟨q, -⟩ | ⟨q, -⟩ | ⟨q, a, b, c⟩ | ⟨q, -⟩ <;> omega
    exact HI_set this (two (Or.inr k9)) hH
  rw [if_neg k9]
  have hk : u 0 < 6 := by rcases hg with ⟨q, -⟩ | ⟨q, -⟩ | ⟨q, -⟩ | ⟨q, -⟩ | ⟨q, -⟩ | ⟨q, -⟩ <;> omega
  obtain ⟨hn, hm⟩ := hc hk
  have g1 := (GR_acc hg hk).1
  have a7 : ∀ l, aCh σ l 7 0 = σ 7 0 := fun l => by simp [aCh, su_g]
  have a10 : ∀ l, aCh σ l 10 0 = σ 10 0 := fun l => by simp [aCh, su_g]
  by_cases k5 : u 0 = 5
  · rw [if_pos k5]
    split
    · rename_i may
      split
      · exact HI_11 (HI_set g1 (by rw [a7, a10]; exact z0) (HI_ch hH))
      · refine HI_11 (HI_acc (HI_ch hH) (IN_ch hI hm) hg hk (by rw [a7]; exact hn) (fun _ => ?_))
        have : aMay (aCh σ 2) h u = aMay σ h u := by unfold aMay aLoc aCh; simp [su_g]
        rw [this]; exact may
    · exact HI_11 (HI_set g1 z0 hH)
  rw [if_neg k5]
  split
  · exact HI_acc (HI_ch hH) (IN_ch hI hm) hg hk (by rw [a7]; exact hn) (fun q => absurd q k5)
  · exact HI_acc hH hI hg hk hn (fun q => absurd q k5)
end HST
theorem hart_HI {mo : Nat} {P : Nat → Nat → Nat → Nat} {L ch : Nat → Nat} {h : Nat} {R : Nat} (hP : ∀ i, i < L h → GR (P h i)) (hch : ∀ j, ch j < 4) : ∀ (f i : Nat) (σ : AW), IN σ h → HI mo σ h → σ 7 0 + ac P h i (L h - i) + R ≤ 6 → σ 5 0 + ac P h i (L h - i) + R ≤ 6 → HI mo (aHart mo P L ch h f i σ) h
  | 0, i, σ, hI, hH, h7, h5 => hH
  | f + 1, i, σ, hI, hH, h7, h5 => by
    rw [aHart]
    by_cases hi : i < L h
    · rw [if_pos hi]
      have hg := hP i hi
      have hac : ac P h i (L h - i) = b2n (decide (P h i 0 < 6)) + ac P h (i + 1) (L h - (i + 1)) := by rw [show L h - i = (L h - (i + 1)) + 1 by omega, ac]
      have hc : P h i 0 < 6 → σ 7 0 < 6 ∧ σ 5 0 < 6 := by
        intro q
        have : b2n (decide (P h i 0 < 6)) = 1 := by simp [b2n, q]
        omega
      have hsk := ac_skip P h (L h) (aStep mo (P h i) h σ (ch (σ 5 0))).2 (i + 1)
      obtain ⟨q7, q5⟩ := step_cnt (mo := mo) (h := h) (σ := σ) (g := ch (σ 5 0)) hg
      exact hart_HI (R := R) hP hch f _ _ (IN_step hI hg hc (hch _)) (HI_step hH hI hg hc (hch _)) (by omega) (by omega)
    · rw [if_neg hi]; exact hH
/-- between two harts -/
def HB (mo : Nat) (σ : AW) (h : Nat) : Prop :=
  (∀ i, i < σ 7 0 → σ 30 i < h) ∧ (∀ k, 4 * h ≤ k → k < 16 → σ 25 k = 0) ∧ (∀ f, f < σ 51 0 → σ 52 f < h ∧ σ 53 f ≤ σ 7 0) ∧ (∀ b, b < σ 7 0 → AB mo σ b) ∧ (∀ a b, a ≤ b → b < σ 7 0 → σ 30 a ≤ σ 30 b)
theorem HB_0 {mo : Nat} : HB mo (fun _ _ => 0) 0 := ⟨fun i hi => absurd hi (Nat.not_lt_zero _), fun _ _ _ => rfl, fun i hi => absurd hi (Nat.not_lt_zero _), fun i hi => absurd hi (Nat.not_lt_zero _), fun _ i _ hi => absurd hi (Nat.not_lt_zero _)⟩
theorem HB_beg {mo : Nat} {σ : AW} {h : Nat} (hh : h < 4) (hB : HB mo σ h) : HI mo (aBeg σ h) h := by
  obtain ⟨b1, b2, b3, b4, b5⟩ := hB
  have e : ∀ v i, (v < 9 ∨ 15 < v) → aBeg σ h v i = σ v i := by
    intro v i a
    unfold aBeg
    simp only [su_g]
    repeat rw [if_neg (by omega)]
  have e7 := e 7 0 (by decide)
  have e10 : aBeg σ h 10 0 = σ 7 0 := by unfold aBeg; simp [su_g]
  have z : ∀ v, v = 11 ∨ v = 13 ∨ v = 14 ∨ v = 15 → aBeg σ h v 0 = 0 := by rintro v (rfl | rfl | rfl | rfl) <;> (unfold aBeg; simp [su_g])
  refine ⟨fun i hi => ?_, fun r hr a ha => ?_, fun k h1 h2 => ?_, fun a => ?_, fun a => ?_, fun a => ?_, fun q => absurd (z 11 (by decide)) q, fun f hf => ?_, fun b hb => ?_, fun a b hab hb => ?_⟩
  · rw [e7] at hi
    rw [e10, e 30 i (by decide)]
    have := b1 i hi
    omega
  · rw [e 25 _ (by decide), b2 _ (by omega) (by omega)] at ha; simp at ha
  · rw [e 25 _ (by decide)]; exact b2 k (by omega) h2
  · rw [z 13 (by decide), e7, e10]; simp; intro m h1 h2; omega
  · rw [z 14 (by decide), e7, e10]; simp; intro h1 h2; omega
  · rw [z 15 (by decide), e7, e10]; simp; intro h1 h2; omega
  · rw [e 51 0 (by decide)] at hf
    rw [e 52 f (by decide), e 53 f (by decide), e7]
    have := b3 f hf
    omega
  · rw [e7] at hb
    exact AB_c (fun v i a b _ => e v i (by omega)) (fun a _ => fenB_c (e 51 0 (by decide)) (fun v i a b => e v i (by omega))) (b4 b hb)
  · rw [e7] at hb
    rw [e 30 a (by decide), e 30 b (by decide)]; exact b5 a b hab hb
theorem HB_of {mo : Nat} {σ : AW} {h : Nat} (hH : HI mo σ h) : HB mo σ (h + 1) := by
  obtain ⟨c1, c2, c2', c3, c4, c5, c6, c7, c8, c10⟩ := hH
  refine ⟨fun i hi => ?_, fun k h1 h2 => c2' k (by omega) h2, fun f hf => ?_, c8, c10⟩
  · have := (c1 i hi).2; omega
  · have := c7 f hf; omega
section WST
variable {mo : Nat} {ch : Nat → Nat} {P : Nat → Nat → Nat → Nat} {L : Nat → Nat}
theorem aW0_HB (hP : ∀ h, h < 4 → ∀ i, i < L h → GR (P h i)) (ht : acR P L 0 ≤ 6) (hch : ∀ j, ch j < 4) : ∀ h, h ≤ 4 → HB mo (aW0 mo P L ch h) h
  | 0, _ => HB_0
  | h + 1, hh => by
    obtain ⟨b1, b2, b3⟩ := aW0_ok (mo := mo) hP ht hch h (by omega)
    rw [acR_s (by omega)] at b2 b3
    refine HB_of ?_
    show HI mo (aHt mo P L ch (aW0 mo P L ch h) h) h
    refine hart_HI (R := acR P L (h + 1)) (hP h (by omega)) hch 7 0 _ (IB_beg (by omega) b1) (HB_beg (by omega) (aW0_HB hP ht hch h (by omega))) ?_ ?_
    · simp only [aBeg, su_g]; simp; omega
    · simp only [aBeg, su_g]; simp; omega
/-- what is known of a way -/
def WS (mo : Nat) (σ : AW) : Prop := IB σ ∧ (∀ b, b < σ 7 0 → AB mo σ b) ∧ (∀ a b, a ≤ b → b < σ 7 0 → σ 30 a ≤ σ 30 b)
theorem way_WS (hP : ∀ h, h < 4 → ∀ i, i < L h → GR (P h i)) (ht : acR P L 0 ≤ 6) (hch : ∀ j, ch j < 4) : WS mo (aWay mo P L ch) := by
  have h1 := aW0_ok (mo := mo) hP ht hch 4 (Nat.le_refl _)
  have h2 := aW0_HB (mo := mo) hP ht hch 4 (Nat.le_refl _)
  rw [aW0_4] at h1 h2
  exact ⟨h1.1, h2.2.2.2.1, h2.2.2.2.2⟩
end WST
