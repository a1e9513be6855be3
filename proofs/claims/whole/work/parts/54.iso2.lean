/-! the reference: a write between; numbers that are one less -/
theorem m1_inj {a b : Nat} (ha : a < 2 ^ 31) (hb : b < 2 ^ 31) : nI a - 1 = nI b - 1 ↔ a = b := by
  constructor
  · intro h
    have h2 := congrArg (fun z : Int32 => z + 1) h
    have h3 : nI a = nI b := by simpa using h2
    exact (nI_eq ha hb).mp h3
  · intro h; rw [h]
theorem m1_eq {s a : Nat} (hs : s < 2 ^ 31) (ha : a + 1 < 2 ^ 31) : nI s - 1 = nI a ↔ s = a + 1 := by
  rw [← nI_pred a]; exact m1_inj hs ha
theorem m1_le {s a : Nat} (hs : s < 2 ^ 31) (ha : a < 2 ^ 31) : nI s - 1 ≤ nI a ↔ s ≤ a + 1 := by
  by_cases z : s = 0
  · subst z
    refine ⟨fun _ => Nat.zero_le _, fun _ => ?_⟩
    rw [Int32.le_iff_toInt_le, nI_toInt ha]
    have : (nI 0 - 1).toInt = -1 := by decide
    omega
  · rw [nu_pred (by omega), nI_leI (by omega) ha]; omega
theorem m1_ge {s b : Nat} (hs : s < 2 ^ 31) (hb : b < 2 ^ 31) : nI b ≤ nI s - 1 ↔ b + 1 ≤ s := by
  by_cases z : s = 0
  · subst z
    refine ⟨fun h => ?_, fun h => by omega⟩
    rw [Int32.le_iff_toInt_le, nI_toInt hb] at h
    have : (nI 0 - 1).toInt = -1 := by decide
    omega
  · rw [nu_pred (by omega), nI_leI hb (by omega)]; omega
section MIO2
variable {mo : Nat} {σ : AW} {p : Nat → Nat} {T : St}
theorem m_isWB {a b : Nat} {Q : Int32 → St → Prop} (hW : WS mo σ) (hF : ∀ i, i < σ 7 0 → MF σ T i) (hab : a < b) (hb : b < σ 7 0) (hT : (∃ m, a < m ∧ m < b ∧ wtK (σ 31 m) = true ∧ σ 32 m = σ 32 a) → Q 1 T) (hN : ¬ (∃ m, a < m ∧ m < b ∧ wtK (σ 31 m) = true ∧ σ 32 m = σ 32 a) → Q 0 T) : pX7_isWriteBetween (nI a) (nI b) T Q := by
  have h6 := hW.1.1
  have loop : ∀ (c m : Nat) (B : Bool), m + c = b → a < m → (B = true ↔ ∃ k, a < k ∧ k < m ∧ wtK (σ 31 k) = true ∧ σ 32 k = σ 32 a) → itr (F := Int32 → Int32 → Int32 → Int32 → St → Prop) (fun _ _ _ _ _ => False) (fun k7 x1 x2 x3 x4 S => bX7_isWriteBetween_7 k7 Q x1 x2 x3 x4 S) (c + 1) (nI a) (nI b) (zI B) (nI m) T := by
    intro c
    induction c with
    | zero =>
      intro m B hm ham hB
      have : m = b := by omega
      subst this
      refine ⟨fun _ => ⟨zI_z _, ?_⟩, fun z => absurd (nI_le (by omega) (by omega)) z⟩
      cases B
      · exact hN (fun q => by have := hB.mpr q; cases this)
      · exact hT (hB.mp rfl)
    | succ c ih =>
      intro m B hm ham hB
      have hmn : m < σ 7 0 := by omega
      have him : vp_in (nI m) 6 := nu_in (by omega) (by decide)
      have hia : vp_in (nI a) 6 := nu_in (by omega) (by decide)
      have yes : (∃ k, a < k ∧ k < m + 1 ∧ wtK (σ 31 k) = true ∧ σ 32 k = σ 32 a) → bX7_isWriteBetween_42 (itr (F := Int32 → Int32 → Int32 → Int32 → St → Prop) (fun _ _ _ _ _ => False) (fun k7 x1 x2 x3 x4 S => bX7_isWriteBetween_7 k7 Q x1 x2 x3 x4 S) (c + 1)) Q (nI a) (nI b) (nI m) T := by
        intro h y1 e1
        rw [e1, nI_1]
        exact ih (m + 1) true (by omega) (by omega) ⟨fun _ => h, fun _ => rfl⟩
      have no : B = false → ¬ (wtK (σ 31 m) = true ∧ σ 32 m = σ 32 a) → bX7_isWriteBetween_46 (itr (F := Int32 → Int32 → Int32 → Int32 → St → Prop) (fun _ _ _ _ _ => False) (fun k7 x1 x2 x3 x4 S => bX7_isWriteBetween_7 k7 Q x1 x2 x3 x4 S) (c + 1)) Q (nI a) (nI b) (nI m) T := by
        intro h0 h y1 e1
        rw [e1, nI_1]
        refine ih (m + 1) false (by omega) (by omega) ⟨(fun q => by cases q), ?_⟩
        rintro ⟨k, k1, k2, k3, k4⟩
        by_cases z : k = m
        · subst z; exact absurd ⟨k3, k4⟩ h
        · have := hB.mpr ⟨k, k1, by omega, k3, k4⟩
          rw [h0] at this; exact this
      have iw := (hW.1.2.2.2 m hmn).2.2.1
      have ia := (hW.1.2.2.2 a (by omega)).2.2.1
      have e32 : nI (σ 32 m) = nI (σ 32 a) ↔ σ 32 m = σ 32 a := nI_eq (by omega) (by omega)
      refine ⟨fun z => by rw [nI_leI (by omega) (by omega)] at z; omega, fun _ => ⟨fun z => yes ?_, fun z => ?_⟩⟩
      · obtain ⟨k, k1, k2, k3⟩ := hB.mp ((zI_1 _).mp z)
        exact ⟨k, k1, by omega, k3⟩
      · have h0 := (zI_0 _).mp z
        refine m_writes hW hmn hF ⟨fun z2 => no h0 (fun q => by rw [q.1] at z2; exact absurd z2 (by decide)), fun z2 => ⟨him, hia, ?_⟩⟩
        rw [nu_cl (by omega), nu_cl (by omega), (hF m hmn).2.2.1, (hF a (by omega)).2.2.1]
        exact ⟨fun z3 => no h0 (fun q => z3 (e32.mpr q.2)), fun z3 => yes ⟨m, ham, by omega, (zI_1 _).mp z2, e32.mp z3⟩⟩
  intro y10 e10
  rw [e10, nI_1]
  exact ⟨b - (a + 1) + 1, loop (b - (a + 1)) (a + 1) false (by omega) (by omega) ⟨(fun q => by cases q), fun ⟨k, k1, k2, _⟩ => by omega⟩⟩
end MIO2
