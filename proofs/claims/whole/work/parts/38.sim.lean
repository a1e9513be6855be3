/-! the class's walk keeps to AW: all of it -/
theorem c_fill_4_lengths {x1 : Int32} {S : St} {Q : St → Prop} (hQ : ∀ S' : St, (∀ w i, w ≠ 20 → S'.1 w i = S.1 w i) → S'.2 = S.2 → (∀ k, k < 4 → S'.1 20 k = x1) → Q S') : pfill_4_lengths x1 S Q := by
  have loop : ∀ (d i : Nat) (T : St), i + d = 4 → (∀ w j, w ≠ 20 → T.1 w j = S.1 w j) → T.2 = S.2 → (∀ k, k < i → T.1 20 k = x1) → itr (F := Int32 → Int32 → Int32 → St → Prop) (fun _ _ _ _ => False) (fun k5 x1 x2 x3 S => bfill_4_lengths_5 k5 Q x1 x2 x3 S) (d + 1) x1 (nI i) (nI 4) T := by
    intro d
    induction d with
    | zero =>
      intro i T hi h1 h2 h3
      refine ⟨fun _ => hQ T h1 h2 (fun k hk => h3 k (by omega)), fun z => absurd (nI_le (by omega) (by omega)) z⟩
    | succ d ih =>
      intro i T hi h1 h2 h3
      refine ⟨fun z => absurd ((nI_leI (by decide) (by omega)).mp z) (by omega), fun _ => ⟨nu_in (by omega) (by decide), fun S1 e1 y3 e3 => ?_⟩⟩
      rw [nu_cl (by omega)] at e1
      rw [e3, nI_1]
      refine ih (i + 1) S1 (by omega) (fun w j hw => ?_) (by rw [e1]; exact h2) (fun k hk => ?_)
      · rw [e1, wr_1, if_neg hw]; exact h1 w j hw
      · rw [e1, wr_1, if_pos rfl]
        by_cases e : k = i
        · rw [if_pos e]
        · rw [if_neg e]; exact h3 k (by omega)
  exact ⟨4 + 1, loop 4 0 S (by omega) (fun _ _ _ => rfl) rfl (fun k hk => absurd hk (Nat.not_lt_zero _))⟩
theorem c_fill_5_values {x1 : Int32} {S : St} {Q : St → Prop} (hQ : ∀ S' : St, (∀ w i, w ≠ 24 → S'.1 w i = S.1 w i) → S'.2 = S.2 → (∀ k, k < 16 → S'.1 24 k = x1) → Q S') : pfill_5_values x1 S Q := by
  have loop : ∀ (d i : Nat) (T : St), i + d = 16 → (∀ w j, w ≠ 24 → T.1 w j = S.1 w j) → T.2 = S.2 → (∀ k, k < i → T.1 24 k = x1) → itr (F := Int32 → Int32 → Int32 → St → Prop) (fun _ _ _ _ => False) (fun k5 x1 x2 x3 S => bfill_5_values_5 k5 Q x1 x2 x3 S) (d + 1) x1 (nI i) (nI 16) T := by
    intro d
    induction d with
    | zero =>
      intro i T hi h1 h2 h3
      refine ⟨fun _ => hQ T h1 h2 (fun k hk => h3 k (by omega)), fun z => absurd (nI_le (by omega) (by omega)) z⟩
    | succ d ih =>
      intro i T hi h1 h2 h3
      refine ⟨fun z => absurd ((nI_leI (by decide) (by omega)).mp z) (by omega), fun _ => ⟨nu_in (by omega) (by decide), fun S1 e1 y3 e3 => ?_⟩⟩
      rw [nu_cl (by omega)] at e1
      rw [e3, nI_1]
      refine ih (i + 1) S1 (by omega) (fun w j hw => ?_) (by rw [e1]; exact h2) (fun k hk => ?_)
      · rw [e1, wr_1, if_neg hw]; exact h1 w j hw
      · rw [e1, wr_1, if_pos rfl]
        by_cases e : k = i
        · rw [if_pos e]
        · rw [if_neg e]; exact h3 k (by omega)
  exact ⟨16 + 1, loop 16 0 S (by omega) (fun _ _ _ => rfl) rfl (fun k hk => absurd hk (Nat.not_lt_zero _))⟩
theorem c_fill_5_carried {x1 : Int32} {S : St} {Q : St → Prop} (hQ : ∀ S' : St, (∀ w i, w ≠ 25 → S'.1 w i = S.1 w i) → S'.2 = S.2 → (∀ k, k < 16 → S'.1 25 k = x1) → Q S') : pfill_5_carried x1 S Q := by
  have loop : ∀ (d i : Nat) (T : St), i + d = 16 → (∀ w j, w ≠ 25 → T.1 w j = S.1 w j) → T.2 = S.2 → (∀ k, k < i → T.1 25 k = x1) → itr (F := Int32 → Int32 → Int32 → St → Prop) (fun _ _ _ _ => False) (fun k5 x1 x2 x3 S => bfill_5_carried_5 k5 Q x1 x2 x3 S) (d + 1) x1 (nI i) (nI 16) T := by
    intro d
    induction d with
    | zero =>
      intro i T hi h1 h2 h3
      refine ⟨fun _ => hQ T h1 h2 (fun k hk => h3 k (by omega)), fun z => absurd (nI_le (by omega) (by omega)) z⟩
    | succ d ih =>
      intro i T hi h1 h2 h3
      refine ⟨fun z => absurd ((nI_leI (by decide) (by omega)).mp z) (by omega), fun _ => ⟨nu_in (by omega) (by decide), fun S1 e1 y3 e3 => ?_⟩⟩
      rw [nu_cl (by omega)] at e1
      rw [e3, nI_1]
      refine ih (i + 1) S1 (by omega) (fun w j hw => ?_) (by rw [e1]; exact h2) (fun k hk => ?_)
      · rw [e1, wr_1, if_neg hw]; exact h1 w j hw
      · rw [e1, wr_1, if_pos rfl]
        by_cases e : k = i
        · rw [if_pos e]
        · rw [if_neg e]; exact h3 k (by omega)
  exact ⟨16 + 1, loop 16 0 S (by omega) (fun _ _ _ => rfl) rfl (fun k hk => absurd hk (Nat.not_lt_zero _))⟩
theorem c_fill_2_latest {x1 : Int32} {S : St} {Q : St → Prop} (hQ : ∀ S' : St, (∀ w i, w ≠ 28 → S'.1 w i = S.1 w i) → S'.2 = S.2 → (∀ k, k < 3 → S'.1 28 k = x1) → Q S') : pfill_2_latest x1 S Q := by
  have loop : ∀ (d i : Nat) (T : St), i + d = 3 → (∀ w j, w ≠ 28 → T.1 w j = S.1 w j) → T.2 = S.2 → (∀ k, k < i → T.1 28 k = x1) → itr (F := Int32 → Int32 → Int32 → St → Prop) (fun _ _ _ _ => False) (fun k5 x1 x2 x3 S => bfill_2_latest_5 k5 Q x1 x2 x3 S) (d + 1) x1 (nI i) (nI 3) T := by
    intro d
    induction d with
    | zero =>
      intro i T hi h1 h2 h3
      refine ⟨fun _ => hQ T h1 h2 (fun k hk => h3 k (by omega)), fun z => absurd (nI_le (by omega) (by omega)) z⟩
    | succ d ih =>
      intro i T hi h1 h2 h3
      refine ⟨fun z => absurd ((nI_leI (by decide) (by omega)).mp z) (by omega), fun _ => ⟨nu_in (by omega) (by decide), fun S1 e1 y3 e3 => ?_⟩⟩
      rw [nu_cl (by omega)] at e1
      rw [e3, nI_1]
      refine ih (i + 1) S1 (by omega) (fun w j hw => ?_) (by rw [e1]; exact h2) (fun k hk => ?_)
      · rw [e1, wr_1, if_neg hw]; exact h1 w j hw
      · rw [e1, wr_1, if_pos rfl]
        by_cases e : k = i
        · rw [if_pos e]
        · rw [if_neg e]; exact h3 k (by omega)
  exact ⟨3 + 1, loop 3 0 S (by omega) (fun _ _ _ => rfl) rfl (fun k hk => absurd hk (Nat.not_lt_zero _))⟩
/-- what AW is between two harts -/
def IB (σ : AW) : Prop := σ 7 0 ≤ 6 ∧ σ 5 0 ≤ 6 ∧ (∀ k, k < 16 → σ 24 k < 4 ∧ σ 25 k < 64) ∧ (∀ i, i < σ 7 0 → AI σ i)
theorem IB_of {σ : AW} {h : Nat} (hI : IN σ h) : IB σ := ⟨hI.2.2.2.1, hI.2.2.2.2.2.2.2.2, hI.2.2.2.2.1, hI.2.2.2.2.2.2.2.1⟩
theorem IB_beg {σ : AW} {h : Nat} (hh : h < 4) (hB : IB σ) : IN (aBeg σ h) h := IN_beg hh hB.1 hB.2.1 hB.2.2.1 hB.2.2.2
theorem IB_0 : IB (fun _ _ => 0) := ⟨by decide, by decide, fun k _ => ⟨show 0 < 4 by decide, show 0 < 64 by decide⟩, fun i hi => absurd hi (Nat.not_lt_zero _)⟩
section WAY
variable {mo K : Nat} {ch l0 : Nat → Nat} {S0 : St} {P : Nat → Nat → Nat → Nat} {L : Nat → Nat}
theorem ht_all {h R : Nat} {σ : AW} (hh : h < 4) (hP : ∀ i, i < L h → GR (P h i)) (hch : ∀ j, ch j < 4) (hB : IB σ) (h7 : σ 7 0 + ac P h 0 (L h) + R ≤ 6) (h5 : σ 5 0 + ac P h 0 (L h) + R ≤ 6) : IN (aHt mo P L ch σ h) h ∧ aHt mo P L ch σ h 7 0 + R ≤ 6 ∧ aHt mo P L ch σ h 5 0 + R ≤ 6 :=
  hart_all hP hch 7 0 (aBeg σ h) (IB_beg hh hB) (by simp only [aBeg, su_g]; simpa using h7) (by simp only [aBeg, su_g]; simpa using h5)
/-- the way, hart by hart -/
def aW0 (mo : Nat) (P : Nat → Nat → Nat → Nat) (L : Nat → Nat) (ch : Nat → Nat) : Nat → AW
  | 0 => fun _ _ => 0
  | h + 1 => aHt mo P L ch (aW0 mo P L ch h) h
theorem aW0_4 : aW0 mo P L ch 4 = aWay mo P L ch := rfl
def acR (P : Nat → Nat → Nat → Nat) (L : Nat → Nat) : Nat → Nat
  | 0 => ac P 0 0 (L 0) + ac P 1 0 (L 1) + ac P 2 0 (L 2) + ac P 3 0 (L 3)
  | 1 => ac P 1 0 (L 1) + ac P 2 0 (L 2) + ac P 3 0 (L 3)
  | 2 => ac P 2 0 (L 2) + ac P 3 0 (L 3)
  | 3 => ac P 3 0 (L 3)
  | _ => 0
theorem acR_s {h : Nat} (hh : h < 4) : acR P L h = ac P h 0 (L h) + acR P L (h + 1) := by
  rcases (show h = 0 ∨ h = 1 ∨ h = 2 ∨ h = 3 by omega) with rfl | rfl | rfl | rfl <;> simp only [acR] <;> omega
theorem aW0_ok (hP : ∀ h, h < 4 → ∀ i, i < L h → GR (P h i)) (ht : acR P L 0 ≤ 6) (hch : ∀ j, ch j < 4) : ∀ h, h ≤ 4 → IB (aW0 mo P L ch h) ∧ aW0 mo P L ch h 7 0 + acR P L h ≤ 6 ∧ aW0 mo P L ch h 5 0 + acR P L h ≤ 6
  | 0, _ => ⟨IB_0, by show 0 + acR P L 0 ≤ 6; omega, by show 0 + acR P L 0 ≤ 6; omega⟩
  | h + 1, hh => by
    obtain ⟨b1, b2, b3⟩ := aW0_ok hP ht hch h (by omega)
    rw [acR_s (by omega)] at b2 b3
    obtain ⟨c1, c2, c3⟩ := ht_all (mo := mo) (h := h) (R := acR P L (h + 1)) (by omega) (hP h (by omega)) hch b1 (by omega) (by omega)
    exact ⟨IB_of c1, c2, c3⟩
theorem c_walk {S : St} {Q : St → Prop} (hPR : PR P L S) (hK : K ≤ 6) (hmo : mo < 3) (hch : ∀ j, ch j < 4) (s5 : S.1 5 0 = nI 0) (s6 : S.1 6 0 = nI K) (s22 : ∀ j, j < K → S.1 22 j = nI (ch j) ∧ S.1 23 j = nI (l0 j)) (h0 : ∀ j, K ≤ j → ch j = 0)
    (hQ : ∀ S', RCw mo K ch l0 S (aWay mo P L ch) S' → Q S') : pX5_walk (nI mo) S Q := by
  have ht : acR P L 0 ≤ 6 := hPR.2.2
  have hP : ∀ h, h < 4 → ∀ i, i < L h → GR (P h i) := fun h hh i hi => (hPR.2.1 h hh i hi).1
  intro S4 e4 S5 e5
  refine c_fill_5_values (fun S6 f1 f2 f3 => ?_)
  refine c_fill_5_carried (fun S7 k1 k2 k3 => ?_)
  have fr : ∀ w i, w ≠ 24 → w ≠ 25 → w ≠ 8 → w ≠ 7 → S7.1 w i = S.1 w i := by
    intro w i w24 w25 w8 w7
    rw [k1 w i w25, f1 w i w24, e5, wr_1, if_neg w7, e4, wr_1, if_neg w8]
  have st : RCw mo K ch l0 S (aW0 mo P L ch 0) S7 := by
    refine ⟨fun w i hu => ?_, by rw [k2, f2, e5, e4]; rfl, ?_, ?_, ?_, fun k hk => ⟨?_, ?_⟩, fun i hi => absurd hi (Nat.not_lt_zero _), ?_, fun j hj => ?_, h0, fun j _ hj => absurd hj (Nat.not_lt_zero _)⟩
    · refine fr w i ?_ ?_ ?_ ?_ <;> (intro e; subst e; cases hu)
    · rw [k1 8 0 (by decide), f1 8 0 (by decide), e5, e4]; simp [wr_1]
    · rw [fr 5 0 (by decide) (by decide) (by decide) (by decide)]; exact s5
    · rw [k1 7 0 (by decide), f1 7 0 (by decide), e5]; simp [wr_1, aW0, nI_0]
    · rw [k1 24 k (by decide), f3 k hk]; rfl
    · rw [k3 k hk]; rfl
    · rw [fr 6 0 (by decide) (by decide) (by decide) (by decide)]; exact s6
    · rw [fr 22 j (by decide) (by decide) (by decide) (by decide), fr 23 j (by decide) (by decide) (by decide) (by decide)]; exact s22 j hj
  have loop : ∀ (d h : Nat) (T : St), h + d = 4 → RCw mo K ch l0 S (aW0 mo P L ch h) T → itr (F := Int32 → St → Prop) (fun _ _ => False) (fun k28 x2 S => bX5_walk_28 k28 Q x2 S) (d + 1) (nI h) T := by
    intro d
    induction d with
    | zero =>
      intro h T hh hT
      have : h = 4 := by omega
      subst this
      exact ⟨fun _ => hQ T hT, fun z => absurd (nI_le (a := 4) (b := 4) (by omega) (by omega)) z⟩
    | succ d ih =>
      intro h T hh hT
      refine ⟨fun z => absurd ((nI_leI (a := 4) (by decide) (by omega)).mp z) (by omega), fun _ => ?_⟩
      obtain ⟨b1, b2, b3⟩ := aW0_ok (mo := mo) hP ht hch h (by omega)
      rw [acR_s (by omega)] at b2 b3
      refine c_hart (R := acR P L (h + 1)) (by omega) hPR hK hmo hch hT (IB_beg (by omega) b1) (by omega) (by omega) (fun S' hS' y2 e2 => ?_)
      rw [e2, nI_1]
      exact ih (h + 1) S' (by omega) hS'
  exact ⟨5, loop 4 0 S7 (by omega) st⟩
end WAY
