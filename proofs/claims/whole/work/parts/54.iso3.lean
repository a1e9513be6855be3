/-! the reference: whether an earlier one is asked to stand before -/
section MIO3
variable {mo : Nat} {σ : AW} {p : Nat → Nat} {T : St}
theorem m_isAsked {a b : Nat} {Q : Int32 → St → Prop} (hW : WS mo σ) (hF : ∀ i, i < σ 7 0 → MF σ T i) (h32 : ∀ i, i < σ 7 0 → rdK (σ 31 i) = true → T.1 32 i = nI (srcR σ p i) - 1) (hab : a < b) (hb : b < σ 7 0) (hrb : rdK (σ 31 b) = true) (hT : asked σ p a b → Q 1 T) (hN : ¬ asked σ p a b → Q 0 T) : pX7_isAsked (nI a) (nI b) T Q := by
  have h6 := hW.1.1
  have hia : vp_in (nI a) 6 := nu_in (by omega) (by decide)
  have hib : vp_in (nI b) 6 := nu_in (by omega) (by decide)
  have ca : (nI a).toNatClampNeg = a := nu_cl (by omega)
  have cb : (nI b).toNatClampNeg = b := nu_cl (by omega)
  have sb := srcR_le (σ := σ) (p := p) (b := b)
  have sa := srcR_le (σ := σ) (p := p) (b := a)
  have xa := hW.1.2.2.2 a (by omega)
  have xb := hW.1.2.2.2 b hb
  -- the third
  have k113 : (¬ (rdK (σ 31 a) = true ∧ σ 32 a = σ 32 b ∧ (∀ m, a < m → m < b → wtK (σ 31 m) = true → σ 32 m ≠ σ 32 a) ∧ srcR σ p a ≠ srcR σ p b)) → (¬ ((σ 31 a = 2 ∨ σ 31 a = 3 ∨ σ 31 a = 5) ∧ srcR σ p b = a + 1)) → bX7_isAsked_113 Q (nI a) (nI b) T := by
    intro n1 n2
    have fin : ¬ (∃ m, srcR σ p b = m + 1 ∧ a < m ∧ m < b ∧ σ 30 m = σ 30 a ∧ ((σ 38 m).testBit a = true ∨ (σ 39 m).testBit a = true)) → bX7_isAsked_181 Q T := fun n3 => ⟨zb_0, hN (fun q => by rcases q with q | q | q; exact n1 q; exact n2 q; exact n3 q)⟩
    have yes : (∃ m, srcR σ p b = m + 1 ∧ a < m ∧ m < b ∧ σ 30 m = σ 30 a ∧ ((σ 38 m).testBit a = true ∨ (σ 39 m).testBit a = true)) → bX7_isAsked_177 Q T := fun q => ⟨zb_1, hT (Or.inr (Or.inr q))⟩
    refine ⟨hib, fun y2 e2 => ?_⟩
    rw [cb, h32 b hb hrb] at e2
    rw [e2]
    refine ⟨fun z => fin ?_, fun z => ⟨fun z2 => fin ?_, fun z2 => ?_⟩⟩
    · rintro ⟨m, m1, m2, -⟩
      have := (m1_le (by omega) (by omega)).mp z
      omega
    · rintro ⟨m, m1, m2, m3, -⟩
      have := (m1_ge (by omega) (by omega)).mp z2
      omega
    · have g1 : ¬ srcR σ p b ≤ a + 1 := fun q => z ((m1_le (by omega) (by omega)).mpr q)
      have g2 : ¬ b + 1 ≤ srcR σ p b := fun q => z2 ((m1_ge (by omega) (by omega)).mpr q)
      obtain ⟨m, em⟩ : ∃ m, srcR σ p b = m + 1 := ⟨srcR σ p b - 1, by omega⟩
      have hm : m < σ 7 0 := by omega
      have him : vp_in (nI m) 6 := nu_in (by omega) (by decide)
      have cm : (nI m).toNatClampNeg = m := nu_cl (by omega)
      have xm := hW.1.2.2.2 m hm
      rw [em, nI_pred, cm, ca, (hF m hm).1, (hF a (by omega)).1]
      have e30 : nI (σ 30 m) = nI (σ 30 a) ↔ σ 30 m = σ 30 a := nI_eq (by have := xm.1; omega) (by have := xa.1; omega)
      refine ⟨him, hia, fun z3 => fin ?_, fun z3 => ⟨him, ?_⟩⟩
      · rintro ⟨k, k1, k2, k3, k4, k5⟩
        have : k = m := by omega
        subst this
        exact z3 (e30.mpr k4)
      · rw [(hF m hm).2.2.2.2.2.2.1, (hF m hm).2.2.2.2.2.2.2.1]
        refine m_needs xm.2.2.2.2.2.2.1 (by omega) ⟨fun z4 => yes ⟨m, em, by omega, by omega, e30.mp z3, Or.inl ((zI_1 _).mp z4)⟩, fun z4 => ⟨him, ?_⟩⟩
        refine m_needs xm.2.2.2.2.2.2.2.1 (by omega) ⟨fun z5 => fin ?_, fun z5 => yes ⟨m, em, by omega, by omega, e30.mp z3, Or.inr ((zI_1 _).mp z5)⟩⟩
        rintro ⟨k, k1, k2, k3, k4, k5⟩
        have : k = m := by omega
        subst this
        rcases k5 with k5 | k5
        · have := (zI_0 _).mp z4; rw [k5] at this; cases this
        · have := (zI_0 _).mp z5; rw [k5] at this; cases this
  -- the second
  have k94 : ∀ (t0 : Int32) (B : Bool), t0 = zI B → (B = true ↔ (σ 31 a = 2 ∨ σ 31 a = 3 ∨ σ 31 a = 5)) → (¬ (rdK (σ 31 a) = true ∧ σ 32 a = σ 32 b ∧ (∀ m, a < m → m < b → wtK (σ 31 m) = true → σ 32 m ≠ σ 32 a) ∧ srcR σ p a ≠ srcR σ p b)) → bX7_isAsked_94 Q (nI a) (nI b) t0 T := by
    intro t0 B e0 hB n1
    rw [e0]
    refine ⟨fun z => k113 n1 (fun q => ?_), fun z => ⟨hib, ?_⟩⟩
    · have := hB.mpr q.1; rw [this] at z; exact absurd z (by decide)
    · rw [cb, h32 b hb hrb]
      have e := m1_eq (s := srcR σ p b) (a := a) (by omega) (by omega)
      exact ⟨fun z2 => k113 n1 (fun q => z2 (e.mpr q.2)), fun z2 => hT (Or.inr (Or.inl ⟨hB.mp ((zI_1 _).mp z), e.mp z2⟩))⟩
  have k59 : (¬ (rdK (σ 31 a) = true ∧ σ 32 a = σ 32 b ∧ (∀ m, a < m → m < b → wtK (σ 31 m) = true → σ 32 m ≠ σ 32 a) ∧ srcR σ p a ≠ srcR σ p b)) → bX7_isAsked_59 Q (nI a) (nI b) T := by
    intro n1
    have xk := xa.2.1
    have e2 : nI (σ 31 a) = (2 : Int32) ↔ σ 31 a = 2 := nu_eqL rfl (by omega) (by decide)
    have e3 : nI (σ 31 a) = (3 : Int32) ↔ σ 31 a = 3 := nu_eqL rfl (by omega) (by decide)
    have e5 : nI (σ 31 a) = (5 : Int32) ↔ σ 31 a = 5 := nu_eqL rfl (by omega) (by decide)
    unfold bX7_isAsked_59
    rw [ca, (hF a (by omega)).2.1]
    have yes : (σ 31 a = 2 ∨ σ 31 a = 3 ∨ σ 31 a = 5) → bX7_isAsked_89 Q (nI a) (nI b) T := fun q => k94 1 true rfl ⟨fun _ => q, fun _ => rfl⟩ n1
    refine ⟨hia, fun z => yes (Or.inl (e2.mp z)), fun z => ⟨hia, fun z2 => yes (Or.inr (Or.inl (e3.mp z2))), fun z2 => ⟨hia, fun z3 => k94 0 false rfl ⟨(fun q => by cases q), fun q => ?_⟩ n1, fun z3 => yes (Or.inr (Or.inr (e5.mp z3)))⟩⟩⟩
    rcases q with q | q | q
    · exact absurd (e2.mpr q) z
    · exact absurd (e3.mpr q) z2
    · exact absurd (e5.mpr q) z3
  have k20 : ∀ (t0 : Int32) (B : Bool), t0 = zI B → (B = true ↔ σ 32 a = σ 32 b) → bX7_isAsked_20 Q (nI a) (nI b) t0 T := by
    intro t0 B e0 hB
    rw [e0]
    refine m_reads hW (by omega) hF ⟨fun z => k59 (fun q => by rw [q.1] at z; exact absurd z (by decide)), fun z => ⟨fun z2 => k59 (fun q => by rw [hB.mpr q.2.1] at z2; exact absurd z2 (by decide)), fun z2 => ?_⟩⟩
    refine m_isWB hW hF hab hb (fun q => ⟨fun _ => k59 ?_, fun y => absurd y (by decide)⟩) (fun q => ⟨fun y => absurd rfl y, fun _ => ?_⟩)
    · rintro ⟨-, -, q3, -⟩
      obtain ⟨m, m1, m2, m3, m4⟩ := q
      exact q3 m m1 m2 m3 m4
    · have hra := (zI_1 _).mp z
      rw [ca, cb, h32 a (by omega) hra, h32 b hb hrb]
      have e := m1_inj (a := srcR σ p a) (b := srcR σ p b) (by omega) (by omega)
      exact ⟨hia, hib, fun z3 => k59 (fun x => x.2.2.2 (e.mp z3)), fun z3 => hT (Or.inl ⟨hra, hB.mp ((zI_1 _).mp z2), fun m m1 m2 m3 m4 => q ⟨m, m1, m2, m3, m4⟩, fun x => z3 (e.mpr x)⟩)⟩
  have e32 : nI (σ 32 a) = nI (σ 32 b) ↔ σ 32 a = σ 32 b := nI_eq (by have := xa.2.2.1; omega) (by have := xb.2.2.1; omega)
  refine ⟨hia, hib, ?_⟩
  rw [ca, cb, (hF a (by omega)).2.2.1, (hF b hb).2.2.1]
  exact ⟨fun z => k20 0 false rfl ⟨(fun q => by cases q), fun q => absurd (e32.mpr q) z⟩, fun z => k20 1 true rfl ⟨fun _ => e32.mp z, fun _ => rfl⟩⟩
end MIO3
