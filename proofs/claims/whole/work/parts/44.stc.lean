/-! what a way's accesses are to each other -/
def fenB (σ : AW) (a b : Nat) : Prop := ∃ f, f < σ 51 0 ∧ σ 52 f = σ 30 a ∧ a < σ 53 f ∧ σ 53 f ≤ b ∧ fnP σ (σ 54 f) a = true ∧ fnP σ (σ 55 f) b = true
def mustP (mo : Nat) (σ : AW) (a b : Nat) : Prop :=
  (mo = 2 ∨ mo = 1 ∧ (rdK (σ 31 a) = true ∨ wtK (σ 31 b) = true)) ∨ (wtK (σ 31 b) = true ∧ σ 32 a = σ 32 b) ∨ fenB σ a b ∨ (σ 33 a).testBit 0 = true ∨ (σ 33 b).testBit 1 = true ∨ (σ 33 a ≠ 0 ∧ σ 33 b ≠ 0) ∨ (σ 31 b = 5 ∧ σ 40 b = a + 1) ∨ (σ 38 b).testBit a = true ∨ (σ 39 b).testBit a = true ∨ (wtK (σ 31 b) = true ∧ (σ 50 b).testBit a = true) ∨ (wtK (σ 31 b) = true ∧ ∃ m, a < m ∧ m < b ∧ (σ 38 m).testBit a = true)
def AB (mo : Nat) (σ : AW) (b : Nat) : Prop :=
  (∀ a, (σ 43 b).testBit a = true ↔ a < b ∧ σ 30 a = σ 30 b ∧ mustP mo σ a b) ∧
  ((σ 41 b = 0 ∧ ∀ m, m < b → σ 30 m = σ 30 b → wtK (σ 31 m) = true → σ 32 m ≠ σ 32 b) ∨ (∃ w, σ 41 b = w + 1 ∧ w < b ∧ σ 30 w = σ 30 b ∧ wtK (σ 31 w) = true ∧ σ 32 w = σ 32 b ∧ ∀ m, w < m → m < b → wtK (σ 31 m) = true → σ 32 m ≠ σ 32 b)) ∧
  (∀ a, (σ 42 b).testBit a = true ↔ a < b ∧ σ 30 a = σ 30 b ∧ σ 32 a = σ 32 b ∧ rdK (σ 31 b) = true ∧ rdK (σ 31 a) = true ∧ ∀ m, a < m → m < b → wtK (σ 31 m) = true → σ 32 m ≠ σ 32 b) ∧
  (∀ a, ((σ 38 b).testBit a = true ∨ (σ 39 b).testBit a = true) → a < b ∧ σ 30 a = σ 30 b) ∧
  ((σ 31 b = 5 → ∃ r, σ 40 b = r + 1 ∧ r < b ∧ σ 30 r = σ 30 b ∧ σ 31 r = 4 ∧ σ 32 r = σ 32 b) ∧ (σ 31 b ≠ 5 → σ 40 b = 0))
theorem mustP_c {mo : Nat} {σ τ : AW} {a b : Nat} (hab : a < b) (e : ∀ v i, 30 ≤ v → v ≤ 50 → i ≤ b → τ v i = σ v i) (hf : fenB τ a b ↔ fenB σ a b) : mustP mo τ a b ↔ mustP mo σ a b := by
  unfold mustP
  rw [hf, e 31 a (by decide) (by decide) (by omega), e 31 b (by decide) (by decide) (by omega), e 32 a (by decide) (by decide) (by omega), e 32 b (by decide) (by decide) (by omega), e 33 a (by decide) (by decide) (by omega), e 33 b (by decide) (by decide) (by omega), e 40 b (by decide) (by decide) (by omega), e 38 b (by decide) (by decide) (by omega), e 39 b (by decide) (by decide) (by omega), e 50 b (by decide) (by decide) (by omega)]
  have : (∃ m, a < m ∧ m < b ∧ (τ 38 m).testBit a = true) ↔ (∃ m, a < m ∧ m < b ∧ (σ 38 m).testBit a = true) := by
    constructor
    · rintro ⟨m, h1, h2, h3⟩; exact ⟨m, h1, h2, by rw [← e 38 m (by decide) (by decide) (by omega)]; exact h3⟩
    · rintro ⟨m, h1, h2, h3⟩; exact ⟨m, h1, h2, by rw [e 38 m (by decide) (by decide) (by omega)]; exact h3⟩
  rw [this]
theorem AB_c {mo : Nat} {σ τ : AW} {b : Nat} (e : ∀ v i, 30 ≤ v → v ≤ 50 → i ≤ b → τ v i = σ v i) (hf : ∀ a, a < b → (fenB τ a b ↔ fenB σ a b)) (h : AB mo σ b) : AB mo τ b := by
  obtain ⟨h1, h2, h3, h4, h5, h6⟩ := h
  have b30 := e 30 b (by decide) (by decide) (by omega)
  have b31 := e 31 b (by decide) (by decide) (by omega)
  have b32 := e 32 b (by decide) (by decide) (by omega)
  refine ⟨fun a => ?_, ?_, fun a => ?_, fun a ha => ?_, fun q => ?_, fun q => ?_⟩
  · rw [e 43 b (by decide) (by decide) (by omega), h1 a, b30]
    constructor
    · rintro ⟨q1, q2, q3⟩; exact ⟨q1, by rw [e 30 a (by decide) (by decide) (by omega)]; exact q2, (mustP_c q1 e (hf a q1)).mpr q3⟩
    · rintro ⟨q1, q2, q3⟩; exact ⟨q1, by rw [← e 30 a (by decide) (by decide) (by omega)]; exact q2, (mustP_c q1 e (hf a q1)).mp q3⟩
  · rw [e 41 b (by decide) (by decide) (by omega), b30, b32]
    rcases h2 with ⟨q, w⟩ | ⟨w, q1, q2, q3, q4, q5, q6⟩
    · left; refine ⟨q, fun m hm => ?_⟩
      rw [e 30 m (by decide) (by decide) (by omega), e 31 m (by decide) (by decide) (by omega), e 32 m (by decide) (by decide) (by omega)]; exact w m hm
    · right; refine ⟨w, q1, q2, ?_, ?_, ?_, fun m a1 a2 => ?_⟩
      · rw [e 30 w (by decide) (by decide) (by omega)]; exact q3
      · rw [e 31 w (by decide) (by decide) (by omega)]; exact q4
      · rw [e 32 w (by decide) (by decide) (by omega)]; exact q5
      · rw [e 31 m (by decide) (by decide) (by omega), e 32 m (by decide) (by decide) (by omega)]; exact q6 m a1 a2
  · rw [e 42 b (by decide) (by decide) (by omega), h3 a, b30, b31, b32]
    constructor
    · rintro ⟨q1, q2, q3, q4, q5, q6⟩
      refine ⟨q1, by rw [e 30 a (by decide) (by decide) (by omega)]; exact q2, by rw [e 32 a (by decide) (by decide) (by omega)]; exact q3, q4, by rw [e 31 a (by decide) (by decide) (by omega)]; exact q5, fun m a1 a2 => ?_⟩
      rw [e 31 m (by decide) (by decide) (by omega), e 32 m (by decide) (by decide) (by omega)]; exact q6 m a1 a2
    · rintro ⟨q1, q2, q3, q4, q5, q6⟩
      refine ⟨q1, by rw [← e 30 a (by decide) (by decide) (by omega)]; exact q2, by rw [← e 32 a (by decide) (by decide) (by omega)]; exact q3, q4, by rw [← e 31 a (by decide) (by decide) (by omega)]; exact q5, fun m a1 a2 => ?_⟩
      rw [← e 31 m (by decide) (by decide) (by omega), ← e 32 m (by decide) (by decide) (by omega)]; exact q6 m a1 a2
  · rw [e 38 b (by decide) (by decide) (by omega), e 39 b (by decide) (by decide) (by omega)] at ha
    obtain ⟨q1, q2⟩ := h4 a ha
    exact ⟨q1, by rw [b30, e 30 a (by decide) (by decide) (by omega)]; exact q2⟩
  · rw [b31] at q
    obtain ⟨r, q1, q2, q3, q4, q5⟩ := h5 q
    exact ⟨r, by rw [e 40 b (by decide) (by decide) (by omega)]; exact q1, q2, by rw [b30, e 30 r (by decide) (by decide) (by omega)]; exact q3, by rw [e 31 r (by decide) (by decide) (by omega)]; exact q4, by rw [b32, e 32 r (by decide) (by decide) (by omega)]; exact q5⟩
  · rw [b31] at q
    rw [e 40 b (by decide) (by decide) (by omega)]; exact h6 q
/-- what holds while a hart is done -/
def HI (mo : Nat) (σ : AW) (h : Nat) : Prop :=
  (∀ i, i < σ 7 0 → (σ 30 i = h ↔ σ 10 0 ≤ i) ∧ σ 30 i ≤ h) ∧
  (∀ r, r < 4 → ∀ a, (σ 25 (4 * h + r)).testBit a = true → σ 10 0 ≤ a ∧ a < σ 7 0) ∧
  (∀ k, 4 * h + 4 ≤ k → k < 16 → σ 25 k = 0) ∧
  (∀ a, (σ 13 0).testBit a = true ↔ ∃ m, σ 10 0 ≤ m ∧ m < σ 7 0 ∧ (σ 38 m).testBit a = true) ∧
  (∀ a, (σ 14 0).testBit a = true ↔ σ 10 0 ≤ a ∧ a < σ 7 0 ∧ ∃ f, f < σ 51 0 ∧ σ 52 f = h ∧ a < σ 53 f ∧ fnP σ (σ 54 f) a = true ∧ (σ 55 f).testBit 0 = true) ∧
  (∀ a, (σ 15 0).testBit a = true ↔ σ 10 0 ≤ a ∧ a < σ 7 0 ∧ ∃ f, f < σ 51 0 ∧ σ 52 f = h ∧ a < σ 53 f ∧ fnP σ (σ 54 f) a = true ∧ (σ 55 f).testBit 1 = true) ∧
  (σ 11 0 ≠ 0 → σ 10 0 < σ 11 0 ∧ σ 11 0 ≤ σ 7 0 ∧ σ 31 (σ 11 0 - 1) = 4) ∧
  (∀ f, f < σ 51 0 → σ 52 f ≤ h ∧ σ 53 f ≤ σ 7 0) ∧
  (∀ b, b < σ 7 0 → AB mo σ b) ∧
  (∀ a b, a ≤ b → b < σ 7 0 → σ 30 a ≤ σ 30 b)
theorem ownF_0 (p : Nat → Bool) (lo : Nat) : ∀ n, ownF p lo n = 0 → ∀ m, lo ≤ m → m < n → p m = false
  | 0, _, m, _, h => absurd h (Nat.not_lt_zero _)
  | n + 1, e, m, h1, h2 => by
    rw [ownF] at e
    by_cases hc : lo ≤ n ∧ p n = true
    · rw [if_pos hc] at e; omega
    · rw [if_neg hc] at e
      by_cases z : m = n
      · subst z
        cases q : p m
        · rfl
        · exact absurd ⟨h1, q⟩ hc
      · exact ownF_0 p lo n e m h1 (by omega)
theorem ownF_mx (p : Nat → Bool) (lo : Nat) : ∀ n, ownF p lo n ≠ 0 → ∀ m, ownF p lo n ≤ m → m < n → p m = false
  | 0, h, _, _, _ => absurd rfl h
  | n + 1, h, m, h1, h2 => by
    rw [ownF] at h h1
    by_cases hc : lo ≤ n ∧ p n = true
    · rw [if_pos hc] at h1; omega
    · rw [if_neg hc] at h h1
      have hl := (ownF_lo p lo n h).1
      by_cases z : m = n
      · subst z
        cases q : p m
        · rfl
        · exact absurd ⟨by omega, q⟩ hc
      · exact ownF_mx p lo n h m h1 (by omega)
section HACC
variable {mo : Nat} {u : Nat → Nat} {h : Nat} {σ : AW} {g : Nat}
set_option maxHeartbeats 2000000 in
theorem HI_acc (hH : HI mo σ h) (hI : IN σ h) (hg : GR u) (hk : u 0 < 6) (hn : σ 7 0 < 6) (hm5 : u 0 = 5 → aMay σ h u = true) : HI mo (aAcc mo u h σ g) h := by
  obtain ⟨c1, c2, c2', c3, c4, c5, c6, c7, c8, c10⟩ := hH
  obtain ⟨g1, gx, gy, gm, gs, ey, hat⟩ := GR_acc hg hk
  have hh := hI.1
  obtain ⟨n30, n31, n32, n33, n36, n37, n38, n39, n40, n50⟩ := @aAcc_new mo u h σ g
  obtain ⟨n41, n42, n43⟩ := @aAcc_new2 mo u h σ g
  have old : ∀ v i, 30 ≤ v → i < σ 7 0 → aAcc mo u h σ g v i = σ v i := fun v i hv hi => aAcc_old hv hi
  have lo : ∀ v i, (v < 30 ∨ 50 < v) → v ≠ 7 → v ≠ 13 → v ≠ 11 → v ≠ 24 → v ≠ 25 → aAcc mo u h σ g v i = σ v i := fun v i a b c d e f => aAcc_lo a b c d e f
  have e7 : aAcc mo u h σ g 7 0 = σ 7 0 + 1 := aAcc_7
  have e10 : aAcc mo u h σ g 10 0 = σ 10 0 := lo 10 0 (by decide) (by decide) (by decide) (by decide) (by decide) (by decide)
  have e11 := (@aAcc_11 mo u h σ g).1
  have e13 := (@aAcc_11 mo u h σ g).2
  have e14 : aAcc mo u h σ g 14 0 = σ 14 0 := lo 14 0 (by decide) (by decide) (by decide) (by decide) (by decide) (by decide)
  have e15 : aAcc mo u h σ g 15 0 = σ 15 0 := lo 15 0 (by decide) (by decide) (by decide) (by decide) (by decide) (by decide)
  have e51 : aAcc mo u h σ g 51 0 = σ 51 0 := lo 51 0 (by decide) (by decide) (by decide) (by decide) (by decide) (by decide)
  have e52 : ∀ f, aAcc mo u h σ g 52 f = σ 52 f := fun f => lo 52 f (by decide) (by decide) (by decide) (by decide) (by decide) (by decide)
  have e53 : ∀ f, aAcc mo u h σ g 53 f = σ 53 f := fun f => lo 53 f (by decide) (by decide) (by decide) (by decide) (by decide) (by decide)
  have e54 : ∀ f, aAcc mo u h σ g 54 f = σ 54 f := fun f => lo 54 f (by decide) (by decide) (by decide) (by decide) (by decide) (by decide)
  have e55 : ∀ f, aAcc mo u h σ g 55 f = σ 55 f := fun f => lo 55 f (by decide) (by decide) (by decide) (by decide) (by decide) (by decide)
  have ereg := fun k => (@aAcc_reg mo u h σ g k).2
  have h79 : σ 10 0 ≤ σ 7 0 := hI.2.2.1
  have bpb : ∀ a, (if u (atK (u 0) + 1) = 0 then 0 else σ 25 (4 * h + (u (atK (u 0) + 1) - 1))).testBit a = true → σ 10 0 ≤ a ∧ a < σ 7 0 := by
    intro a ha
    by_cases q : u (atK (u 0) + 1) = 0
    · rw [if_pos q] at ha; simp at ha
    · rw [if_neg q] at ha; exact c2 _ (by omega) a ha
  have bvb : ∀ a, (if wtK (u 0) = true then σ 25 (4 * h + u (atK (u 0) - 1)) else 0).testBit a = true → σ 10 0 ≤ a ∧ a < σ 7 0 := by
    intro a ha
    by_cases q : wtK (u 0) = true
    · rw [if_pos q] at ha; exact c2 _ (gs q) a ha
    · rw [if_neg q] at ha; simp at ha
  generalize hbp : (if u (atK (u 0) + 1) = 0 then 0 else σ 25 (4 * h + (u (atK (u 0) + 1) - 1))) = bp at *
  generalize hbv : (if wtK (u 0) = true then σ 25 (4 * h + u (atK (u 0) - 1)) else 0) = bv at *
  generalize hlc : aLoc σ h (u (atK (u 0))) (u (atK (u 0) + 1)) = lc at *
  have h5rs : u 0 = 5 → σ 11 0 ≠ 0 ∧ σ 32 (σ 11 0 - 1) = lc := by
    intro k5
    have := hm5 k5
    have hlc' : aLoc σ h (u 3) (u 4) = lc := by rw [← hlc, k5]; rfl
    simp only [aMay, Bool.and_eq_true, decide_eq_true_eq] at this
    rw [hlc'] at this
    exact this
  generalize hA : aAcc mo u h σ g = A at *
  have fn : ∀ a f, a < σ 7 0 → fnP A f a = fnP σ f a := by intro a f ha; unfold fnP; rw [old 31 a (by decide) ha]
  refine ⟨fun i hi => ?_, fun r hr a ha => ?_, fun k hk1 hk2 => ?_, fun a => ?_, fun a => ?_, fun a => ?_, fun q => ?_, fun f hf => ?_, fun b hb => ?_, fun a b hab hb => ?_⟩
  · rw [e7] at hi; rw [e10]
    by_cases z : i = σ 7 0
    · subst z; rw [n30]; exact ⟨⟨fun _ => h79, fun _ => rfl⟩, Nat.le_refl _⟩
    · rw [old 30 i (by decide) (by omega)]; exact c1 i (by omega)
  · rw [ereg] at ha; rw [e10, e7]
    by_cases z : u 0 ≠ 1 ∧ 4 * h + r = 4 * h + u 1
    · rw [if_pos z, Nat.testBit_two_pow] at ha
      have : σ 7 0 = a := by simpa using ha
      omega
    · rw [if_neg z] at ha
      have := c2 r hr a ha
      omega
  · rw [ereg, if_neg (by omega)]; exact c2' k hk1 hk2
  · rw [e13, e10, e7, Nat.testBit_or, Bool.or_eq_true, c3 a]
    constructor
    · rintro (⟨m, q1, q2, q3⟩ | q)
      · exact ⟨m, q1, by omega, by rw [old 38 m (by decide) q2]; exact q3⟩
      · exact ⟨σ 7 0, h79, by omega, by rw [n38]; exact q⟩
    · rintro ⟨m, q1, q2, q3⟩
      by_cases z : m = σ 7 0
      · subst z; rw [n38] at q3; exact Or.inr q3
      · rw [old 38 m (by decide) (by omega)] at q3
        exact Or.inl ⟨m, q1, by omega, q3⟩
  · rw [e14, e10, e7, e51, c4 a]
    constructor
    · rintro ⟨q1, q2, f, q3, q4, q5, q6, q7⟩
      exact ⟨q1, by omega, f, q3, by rw [e52]; exact q4, by rw [e53]; exact q5, by rw [e54, fn a _ q2]; exact q6, by rw [e55]; exact q7⟩
    · rintro ⟨q1, q2, f, q3, q4, q5, q6, q7⟩
      rw [e52] at q4; rw [e53] at q5; rw [e54] at q6; rw [e55] at q7
      have := (c7 f q3).2
      rw [fn a _ (by omega)] at q6
      exact ⟨q1, by omega, f, q3, q4, q5, q6, q7⟩
  · rw [e15, e10, e7, e51, c5 a]
    constructor
    · rintro ⟨q1, q2, f, q3, q4, q5, q6, q7⟩
      exact ⟨q1, by omega, f, q3, by rw [e52]; exact q4, by rw [e53]; exact q5, by rw [e54, fn a _ q2]; exact q6, by rw [e55]; exact q7⟩
    · rintro ⟨q1, q2, f, q3, q4, q5, q6, q7⟩
      rw [e52] at q4; rw [e53] at q5; rw [e54] at q6; rw [e55] at q7
      have := (c7 f q3).2
      rw [fn a _ (by omega)] at q6
      exact ⟨q1, by omega, f, q3, q4, q5, q6, q7⟩
  · rw [e11] at q ⊢
    rw [e10, e7]
    by_cases k4 : u 0 = 4
    · rw [if_pos k4]
      refine ⟨by omega, by omega, ?_⟩
      rw [Nat.add_sub_cancel, n31, k4]
    · rw [if_neg k4] at q ⊢
      obtain ⟨q1, q2, q3⟩ := c6 q
      refine ⟨q1, by omega, ?_⟩
      rw [old 31 _ (by decide) (by omega)]; exact q3
  · rw [e51] at hf
    rw [e52, e53, e7]
    have := c7 f hf
    omega
  · rw [e7] at hb
    by_cases z : b = σ 7 0
    · subst z
      have hse : ∀ a, a < σ 7 0 → (A 30 a = h ↔ σ 10 0 ≤ a) := fun a ha => by rw [old 30 a (by decide) ha]; exact (c1 a ha).1
      have fen : ∀ a, a < σ 7 0 → σ 10 0 ≤ a → (fenB A a (σ 7 0) ↔ ((if rdK (u 0) then σ 14 0 else 0) ||| (if wtK (u 0) then σ 15 0 else 0)).testBit a = true) := by
        intro a ha hla
        have ea : σ 30 a = h := (c1 a ha).1.mpr hla
        unfold fenB
        rw [Nat.testBit_or, Bool.or_eq_true, e51]
        have s2 : ∀ f, fnP A f (σ 7 0) = ((rdK (u 0) && f.testBit 0) || (wtK (u 0) && f.testBit 1)) := by intro f; unfold fnP; rw [n31]
        constructor
        · rintro ⟨f, q1, q2, q3, q4, q5, q6⟩
          rw [e52, old 30 a (by decide) ha, ea] at q2
          rw [e53] at q3
          rw [e54, fn a _ ha] at q5
          rw [e55, s2, Bool.or_eq_true, Bool.and_eq_true, Bool.and_eq_true] at q6
          rcases q6 with ⟨w1, w2⟩ | ⟨w1, w2⟩
          · left; rw [if_pos w1]; exact (c4 a).mpr ⟨hla, ha, f, q1, q2, q3, q5, w2⟩
          · right; rw [if_pos w1]; exact (c5 a).mpr ⟨hla, ha, f, q1, q2, q3, q5, w2⟩
        · rintro (q | q)
          · by_cases w : rdK (u 0) = true
            · rw [if_pos w] at q
              obtain ⟨-, -, f, q1, q2, q3, q5, q6⟩ := (c4 a).mp q
              refine ⟨f, q1, by rw [e52, old 30 a (by decide) ha, ea]; exact q2, by rw [e53]; exact q3, by rw [e53]; exact (c7 f q1).2, by rw [e54, fn a _ ha]; exact q5, ?_⟩
              rw [e55, s2, w, q6]; rfl
            · rw [if_neg w] at q; simp at q
          · by_cases w : wtK (u 0) = true
            · rw [if_pos w] at q
              obtain ⟨-, -, f, q1, q2, q3, q5, q6⟩ := (c5 a).mp q
              refine ⟨f, q1, by rw [e52, old 30 a (by decide) ha, ea]; exact q2, by rw [e53]; exact q3, by rw [e53]; exact (c7 f q1).2, by rw [e54, fn a _ ha]; exact q5, ?_⟩
              rw [e55, s2, w, q6]; simp
            · rw [if_neg w] at q; simp at q
      refine ⟨fun a => ?_, ?_, fun a => ?_, fun a ha => ?_, fun q => ?_, fun q => ?_⟩
      · rw [n43, msk_bit, decide_eq_true_eq, n30]
        constructor
        · rintro ⟨q1, q2, q3⟩
          refine ⟨q2, (hse a q2).mpr q1, ?_⟩
          unfold mustP
          rw [fen a q2 q1, n31, n32, n33, n38, n39, n40, n50, old 31 a (by decide) q2, old 32 a (by decide) q2, old 33 a (by decide) q2]
          unfold orP at q3
          simp only [Bool.or_eq_true, Bool.and_eq_true, beq_iff_eq, bne_iff_ne, Nat.testBit_or] at q3
          rcases q3 with (((((q3 | q3) | q3) | q3) | q3) | q3) | q3
          · exact Or.inr (Or.inl q3)
          · refine Or.inr (Or.inr (Or.inl ?_))
            rw [Nat.testBit_or, Bool.or_eq_true]; exact q3
          · rcases q3 with q3 | q3
            · exact Or.inr (Or.inr (Or.inr (Or.inl q3)))
            · exact Or.inr (Or.inr (Or.inr (Or.inr (Or.inl q3))))
          · exact Or.inr (Or.inr (Or.inr (Or.inr (Or.inr (Or.inl q3)))))
          · have k5 : u 0 = 5 := by
              by_cases k5 : u 0 = 5
              · exact k5
              · rw [if_neg k5] at q3; omega
            exact Or.inr (Or.inr (Or.inr (Or.inr (Or.inr (Or.inr (Or.inl ⟨k5, q3⟩))))))
          · rcases q3 with (q3 | q3) | q3
            · exact Or.inr (Or.inr (Or.inr (Or.inr (Or.inr (Or.inr (Or.inr (Or.inl q3)))))))
            · exact Or.inr (Or.inr (Or.inr (Or.inr (Or.inr (Or.inr (Or.inr (Or.inr (Or.inl q3))))))))
            · by_cases w : wtK (u 0) = true
              · rw [if_pos w, Nat.testBit_or, Bool.or_eq_true] at q3
                rcases q3 with q3 | q3
                · exact Or.inr (Or.inr (Or.inr (Or.inr (Or.inr (Or.inr (Or.inr (Or.inr (Or.inr (Or.inl ⟨w, q3⟩)))))))))
                · obtain ⟨m, w1, w2, w3⟩ := (c3 a).mp q3
                  refine Or.inr (Or.inr (Or.inr (Or.inr (Or.inr (Or.inr (Or.inr (Or.inr (Or.inr (Or.inr ⟨w, m, ?_, w2, ?_⟩)))))))))
                  · exact ((c8 m w2).2.2.2.1 a (Or.inl w3)).1
                  · rw [old 38 m (by decide) w2]; exact w3
              · rw [if_neg w] at q3; simp at q3
          · left; exact q3
        · rintro ⟨q2, q1, q3⟩
          have q1 := (hse a q2).mp q1
          refine ⟨q1, q2, ?_⟩
          unfold mustP at q3
          rw [fen a q2 q1, n31, n32, n33, n38, n39, n40, n50, old 31 a (by decide) q2, old 32 a (by decide) q2, old 33 a (by decide) q2] at q3
          unfold orP
          simp only [Bool.or_eq_true, Bool.and_eq_true, beq_iff_eq, bne_iff_ne, Nat.testBit_or]
          rcases q3 with q3 | q3 | q3 | q3 | q3 | q3 | q3 | q3 | q3 | q3 | q3
          · right; exact q3
          · exact Or.inl (Or.inl (Or.inl (Or.inl (Or.inl (Or.inl q3)))))
          · rw [Nat.testBit_or, Bool.or_eq_true] at q3
            exact Or.inl (Or.inl (Or.inl (Or.inl (Or.inl (Or.inr q3)))))
          · exact Or.inl (Or.inl (Or.inl (Or.inl (Or.inr (Or.inl q3)))))
          · exact Or.inl (Or.inl (Or.inl (Or.inl (Or.inr (Or.inr q3)))))
          · exact Or.inl (Or.inl (Or.inl (Or.inr q3)))
          · exact Or.inl (Or.inl (Or.inr q3.2))
          · exact Or.inl (Or.inr (Or.inl (Or.inl q3)))
          · exact Or.inl (Or.inr (Or.inl (Or.inr q3)))
          · refine Or.inl (Or.inr (Or.inr ?_))
            rw [if_pos q3.1, Nat.testBit_or, Bool.or_eq_true]; exact Or.inl q3.2
          · obtain ⟨w, m, w1, w2, w3⟩ := q3
            refine Or.inl (Or.inr (Or.inr ?_))
            rw [if_pos w, Nat.testBit_or, Bool.or_eq_true]
            rw [old 38 m (by decide) w2] at w3
            exact Or.inr ((c3 a).mpr ⟨m, by omega, w2, w3⟩)
      · rw [n41, n30, n32]
        by_cases z : ownF (owP σ lc) (σ 10 0) (σ 7 0) = 0
        · left
          refine ⟨z, fun m hm q1 q2 => ?_⟩
          rw [old 32 m (by decide) hm]
          rw [old 31 m (by decide) hm] at q2
          have := ownF_0 _ _ _ z m ((hse m hm).mp q1) hm
          unfold owP at this
          rw [q2, Bool.and_true] at this
          simpa using this
        · right
          have l1 := ownF_lo _ _ _ z
          have l2 := ownF_le (owP σ lc) (σ 10 0) (σ 7 0)
          have l3 := ownF_mx _ _ _ z
          generalize ownF (owP σ lc) (σ 10 0) (σ 7 0) = w at *
          have l4 := l1.2
          unfold owP at l4
          rw [Bool.and_eq_true, beq_iff_eq] at l4
          refine ⟨w - 1, by omega, by omega, ?_, ?_, ?_, fun m q1 q2 q3 => ?_⟩
          · exact (hse (w - 1) (by omega)).mpr (by omega)
          · rw [old 31 _ (by decide) (by omega)]; exact l4.2
          · rw [old 32 _ (by decide) (by omega)]; exact l4.1
          · rw [old 32 _ (by decide) (by omega)]
            rw [old 31 _ (by decide) (by omega)] at q3
            have := l3 m (by omega) q2
            unfold owP at this
            rw [q3, Bool.and_true] at this
            simpa using this
      · rw [n42, msk_bit, decide_eq_true_eq, n30, n31, n32]
        have key : ∀ a, a < σ 7 0 → σ 10 0 ≤ a → (ownF (owP σ lc) (a + 1) (σ 7 0) = 0 ↔ ∀ m, a < m → m < σ 7 0 → wtK (A 31 m) = true → A 32 m ≠ lc) := by
          intro a ha hla
          constructor
          · intro z m q1 q2 q3
            rw [old 32 _ (by decide) q2]
            rw [old 31 _ (by decide) q2] at q3
            have := ownF_0 _ _ _ z m (by omega) q2
            unfold owP at this
            rw [q3, Bool.and_true] at this
            simpa using this
          · intro z
            by_cases w : ownF (owP σ lc) (a + 1) (σ 7 0) = 0
            · exact w
            · have l1 := ownF_lo _ _ _ w
              have l2 := ownF_le (owP σ lc) (a + 1) (σ 7 0)
              have l4 := l1.2
              unfold owP at l4
              rw [Bool.and_eq_true, beq_iff_eq] at l4
              unfold owP at l1 l2
              exfalso
              refine z (ownF (owP σ lc) (a + 1) (σ 7 0) - 1) ?_ ?_ ?_ ?_
              · unfold owP; omega
              · unfold owP; omega
              · rw [old 31 _ (by decide) (by unfold owP; omega)]; exact l4.2
              · rw [old 32 _ (by decide) (by unfold owP; omega)]; exact l4.1
        constructor
        · rintro ⟨q1, q2, q3⟩
          unfold twP at q3
          simp only [Bool.and_eq_true, beq_iff_eq] at q3
          obtain ⟨⟨⟨w1, w2⟩, w3⟩, w4⟩ := q3
          exact ⟨q2, (hse a q2).mpr q1, by rw [old 32 _ (by decide) q2]; exact w1, w2, by rw [old 31 _ (by decide) q2]; exact w3, (key a q2 q1).mp w4⟩
        · rintro ⟨q2, q1, w1, w2, w3, w4⟩
          have q1 := (hse a q2).mp q1
          rw [old 32 _ (by decide) q2] at w1
          rw [old 31 _ (by decide) q2] at w3
          refine ⟨q1, q2, ?_⟩
          unfold twP
          simp only [Bool.and_eq_true, beq_iff_eq]
          exact ⟨⟨⟨w1, w2⟩, w3⟩, (key a q2 q1).mpr w4⟩
      · rw [n38, n39] at ha
        rw [n30]
        have : σ 10 0 ≤ a ∧ a < σ 7 0 := by
          rcases ha with q | q
          · exact bpb a q
          · exact bvb a q
        exact ⟨this.2, (hse a this.2).mpr this.1⟩
      · rw [n31] at q
        obtain ⟨w1, w2⟩ := h5rs q
        obtain ⟨w3, w4, w5⟩ := c6 w1
        rw [n40, n30, n32, if_pos q]
        exact ⟨σ 11 0 - 1, by omega, by omega, (hse _ (by omega)).mpr (by omega), by rw [old 31 _ (by decide) (by omega)]; exact w5, by rw [old 32 _ (by decide) (by omega)]; exact w2⟩
      · rw [n31] at q
        rw [n40, if_neg q]
    · have hb2 : b < σ 7 0 := by omega
      refine AB_c (σ := σ) (fun v i hv hv2 hi => old v i hv (by omega)) (fun a ha => ?_) (c8 b hb2)
      unfold fenB
      rw [e51, old 30 a (by decide) (by omega)]
      constructor
      · rintro ⟨f, q1, q2, q3, q4, q5, q6⟩
        exact ⟨f, q1, by rw [← e52]; exact q2, by rw [← e53]; exact q3, by rw [← e53]; exact q4, by rw [← e54, ← fn a _ (by omega)]; exact q5, by rw [← e55, ← fn b _ (by omega)]; exact q6⟩
      · rintro ⟨f, q1, q2, q3, q4, q5, q6⟩
        exact ⟨f, q1, by rw [e52]; exact q2, by rw [e53]; exact q3, by rw [e53]; exact q4, by rw [e54, fn a _ (by omega)]; exact q5, by rw [e55, fn b _ (by omega)]; exact q6⟩
  · rw [e7] at hb
    by_cases z : b = σ 7 0
    · subst z
      rw [n30]
      by_cases z2 : a = σ 7 0
      · subst z2; rw [n30]; exact Nat.le_refl _
      · rw [old 30 a (by decide) (by omega)]; exact (c1 a (by omega)).2
    · rw [old 30 a (by decide) (by omega), old 30 b (by decide) (by omega)]
      exact c10 a b hab (by omega)
end HACC
