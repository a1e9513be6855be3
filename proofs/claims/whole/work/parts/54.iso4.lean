/-! the reference: whether a conditional store is one with its reservation -/
section MIO4
variable {mo : Nat} {σ : AW} {p : Nat → Nat} {T : St}
theorem m_isAtomic {c : Nat} {Q : Int32 → St → Prop} (hW : WS mo σ) (hC : CO σ p) (hM : MP σ p T) (h32 : ∀ i, i < σ 7 0 → rdK (σ 31 i) = true → T.1 32 i = nI (srcR σ p i) - 1) (hc : c < σ 7 0) (h5 : σ 31 c = 5) (hT : atomR σ p c → Q 1 T) (hN : ¬ atomR σ p c → Q 0 T) : pX7_isAtomic (nI c) T Q := by
  have h6 := hW.1.1
  obtain ⟨h13, hF, h31⟩ := hM
  obtain ⟨r, r1, r2, r3, r4, r5⟩ := (hW.2.1 c hc).2.2.2.2.1 h5
  have hr : r < σ 7 0 := by omega
  have hic : vp_in (nI c) 6 := nu_in (by omega) (by decide)
  have hir : vp_in (nI r) 6 := nu_in (by omega) (by decide)
  have cc : (nI c).toNatClampNeg = c := nu_cl (by omega)
  have cr : (nI r).toNatClampNeg = r := nu_cl (by omega)
  have sr := srcR_le (σ := σ) (p := p) (b := r)
  have ps := fun (h : srcR σ p r ≠ 0) => src_s (σ := σ) (p := p) (b := r) h
  have pc := hC.1 c hc
  obtain ⟨s, es⟩ : ∃ s, s = srcR σ p r := ⟨_, rfl⟩
  have hat : atomR σ p c ↔ (s = 0 ∨ p (s - 1) < p c) ∧ ∀ w, w < σ 7 0 → w + 1 ≠ s → wtK (σ 31 w) = true → σ 30 w ≠ σ 30 c → σ 32 w = σ 32 c → (s ≠ 0 ∧ p w < p (s - 1)) ∨ p c < p w := by
    unfold atomR
    rw [r1, Nat.add_sub_cancel, ← es]
  rw [← es] at sr ps
  have loop : ∀ (x4 : Int32), (∀ w, w < σ 7 0 → (nI (p w) < x4 ↔ s ≠ 0 ∧ p w < p (s - 1))) → ∀ (d w : Nat) (B : Bool), w + d = σ 7 0 → (B = true ↔ (s = 0 ∨ p (s - 1) < p c) ∧ ∀ m, m < w → m + 1 ≠ s → wtK (σ 31 m) = true → σ 30 m ≠ σ 30 c → σ 32 m = σ 32 c → (s ≠ 0 ∧ p m < p (s - 1)) ∨ p c < p m) → itr (F := Int32 → Int32 → Int32 → Int32 → Int32 → St → Prop) (fun _ _ _ _ _ _ => False) (fun k51 x1 x3 x4 x5 x6 S => bX7_isAtomic_51 k51 Q x1 x3 x4 x5 x6 S) (d + 1) (nI c) (nI s - 1) x4 (zI B) (nI w) T := by
    intro x4 hx4 d
    induction d with
    | zero =>
      intro w B hw hB
      have : w = σ 7 0 := by omega
      subst this
      refine ⟨fun _ => ⟨zI_z _, ?_⟩, fun z => absurd (by rw [h13]; exact nI_le (by omega) (by omega)) z⟩
      cases B
      · exact hN (fun q => by have := hB.mpr (hat.mp q); cases this)
      · exact hT (hat.mpr (hB.mp rfl))
    | succ d ih =>
      intro w B hw hB
      have hwn : w < σ 7 0 := by omega
      have hiw : vp_in (nI w) 6 := nu_in (by omega) (by decide)
      have cw : (nI w).toNatClampNeg = w := nu_cl (by omega)
      refine ⟨fun z => by rw [h13, nI_leI (by omega) (by omega)] at z; omega, fun _ => ⟨fun z => ⟨zI_z _, ?_⟩, fun z => ?_⟩⟩
      · have h0 := (zI_0 _).mp z
        subst h0
        refine hN (fun q => ?_)
        obtain ⟨q1, q2⟩ := hat.mp q
        have := hB.mpr ⟨q1, fun m hm => q2 m (by omega)⟩
        cases this
      · have h1 := (zI_1 _).mp z
        subst h1
        obtain ⟨b1, b2⟩ := hB.mp rfl
        have yes : (w + 1 ≠ s → wtK (σ 31 w) = true → σ 30 w ≠ σ 30 c → σ 32 w = σ 32 c → (s ≠ 0 ∧ p w < p (s - 1)) ∨ p c < p w) → bX7_isAtomic_152 (itr (F := Int32 → Int32 → Int32 → Int32 → Int32 → St → Prop) (fun _ _ _ _ _ _ => False) (fun k51 x1 x3 x4 x5 x6 S => bX7_isAtomic_51 k51 Q x1 x3 x4 x5 x6 S) (d + 1)) Q (nI c) (nI s - 1) x4 (nI w) T := by
          intro h y1 e1
          rw [e1, nI_1]
          refine ih (w + 1) true (by omega) ⟨fun _ => ⟨b1, fun m hm => ?_⟩, fun _ => rfl⟩
          by_cases q : m = w
          · subst q; exact h
          · exact b2 m (by omega)
        have no : ¬ (w + 1 ≠ s → wtK (σ 31 w) = true → σ 30 w ≠ σ 30 c → σ 32 w = σ 32 c → (s ≠ 0 ∧ p w < p (s - 1)) ∨ p c < p w) → bX7_isAtomic_157 (itr (F := Int32 → Int32 → Int32 → Int32 → Int32 → St → Prop) (fun _ _ _ _ _ _ => False) (fun k51 x1 x3 x4 x5 x6 S => bX7_isAtomic_51 k51 Q x1 x3 x4 x5 x6 S) (d + 1)) Q (nI c) (nI s - 1) x4 (nI w) (0 : Int32) T := by
          intro h y1 e1
          rw [e1, nI_1]
          exact ih (w + 1) false (by omega) ⟨(fun q => by cases q), fun q => absurd (q.2 w (by omega)) h⟩
        have no0 : ¬ (w + 1 ≠ s ∧ wtK (σ 31 w) = true ∧ σ 30 w ≠ σ 30 c ∧ σ 32 w = σ 32 c) → bX7_isAtomic_116 (itr (F := Int32 → Int32 → Int32 → Int32 → Int32 → St → Prop) (fun _ _ _ _ _ _ => False) (fun k51 x1 x3 x4 x5 x6 S => bX7_isAtomic_51 k51 Q x1 x3 x4 x5 x6 S) (d + 1)) Q (nI c) (nI s - 1) x4 (nI w) T :=
          fun h => ⟨fun _ => yes (fun g1 g2 g3 g4 => absurd ⟨g1, g2, g3, g4⟩ h), fun y => absurd rfl y⟩
        have xw := hW.1.2.2.2 w hwn
        have xc := hW.1.2.2.2 c hc
        have pw := hC.1 w hwn
        have ex : nI w = nI s - 1 ↔ w + 1 = s := by
          constructor
          · intro q; exact ((m1_eq (by omega) (by omega)).mp q.symm).symm
          · intro q; exact ((m1_eq (by omega) (by omega)).mpr q.symm).symm
        have e30 : nI (σ 30 w) = nI (σ 30 c) ↔ σ 30 w = σ 30 c := nI_eq (by have := xw.1; omega) (by have := xc.1; omega)
        have e32 : nI (σ 32 w) = nI (σ 32 c) ↔ σ 32 w = σ 32 c := nI_eq (by have := xw.2.2.1; omega) (by have := xc.2.2.1; omega)
        have ep : nI (p w) ≤ nI (p c) ↔ p w ≤ p c := nI_leI (by omega) (by omega)
        refine ⟨fun z1 => no0 (fun q => q.1 (ex.mp z1)), fun z1 => ?_⟩
        refine m_writes hW hwn hF ⟨fun z2 => no0 (fun q => by rw [q.2.1] at z2; exact absurd z2 (by decide)), fun z2 => ⟨hiw, hic, ?_⟩⟩
        rw [cw, cc, (hF w hwn).1, (hF c hc).1, (hF w hwn).2.2.1, (hF c hc).2.2.1]
        refine ⟨fun z3 => no0 (fun q => q.2.2.1 (e30.mp z3)), fun z3 => ⟨hiw, hic, fun z4 => no0 (fun q => z4 (e32.mpr q.2.2.2)), fun z4 => ⟨fun y => absurd y (by decide), fun _ => ⟨hiw, ?_⟩⟩⟩⟩
        rw [cw, cc, h31 w hwn, h31 c hc]
        refine ⟨fun z5 => yes (fun _ _ _ _ => Or.inl ((hx4 w hwn).mp z5)), fun z5 => ⟨hiw, hic, fun z6 => no (fun q => ?_), fun z6 => yes (fun _ _ _ _ => Or.inr ?_)⟩⟩
        · rcases q (fun y => z1 (ex.mpr y)) ((zI_1 _).mp z2) (fun y => z3 (e30.mpr y)) (e32.mp z4) with q | q
          · exact z5 ((hx4 w hwn).mpr q)
          · have := ep.mp z6; omega
        · rcases Nat.lt_or_ge (p c) (p w) with q | q
          · exact q
          · exact absurd (ep.mpr q) z6
  have k28 : ∀ (x4 : Int32), (∀ w, w < σ 7 0 → (nI (p w) < x4 ↔ s ≠ 0 ∧ p w < p (s - 1))) → (nI (p c) ≤ x4 ↔ ¬ (s = 0 ∨ p (s - 1) < p c)) → bX7_isAtomic_28 Q (nI c) (nI s - 1) x4 T := by
    intro x4 h4 h4c
    refine ⟨hic, ?_⟩
    rw [cc, h31 c hc]
    refine ⟨fun z => ⟨σ 7 0 + 1, loop x4 h4 (σ 7 0) 0 false (by omega) ⟨(fun q => by cases q), fun q => absurd q.1 (h4c.mp z)⟩⟩, fun z => ⟨σ 7 0 + 1, loop x4 h4 (σ 7 0) 0 true (by omega) ⟨fun _ => ⟨?_, fun m hm => absurd hm (Nat.not_lt_zero _)⟩, fun _ => rfl⟩⟩⟩
    exact Classical.byContradiction (fun q => z (h4c.mpr q))
  refine ⟨hic, fun y23 e23 => ?_⟩
  rw [cc, (hF c hc).2.2.2.2.2.2.2.2.2 h5, r1, nI_pred] at e23
  rw [e23]
  refine ⟨hir, fun y25 e25 => ?_⟩
  rw [cr, h32 r hr (by rw [r4]; rfl), ← es] at e25
  rw [e25]
  refine ⟨fun z => ?_, fun z => ?_⟩
  · have hs : s ≠ 0 := (nu_nng (by omega)).mp z
    have hs1 := hC.1 (s - 1) (by omega)
    rw [nu_pred (by omega), nu_cl (by omega), h31 _ (by omega)]
    refine ⟨nu_in (by omega) (by decide), ?_⟩
    have := k28 (nI (p (s - 1))) (fun w hw => ?_) ?_
    · rw [nu_pred (by omega)] at this; exact this
    · have := hC.1 w hw
      rw [nI_ltI (by omega) (by omega)]
      exact ⟨fun q => ⟨hs, q⟩, fun q => q.2⟩
    · rw [nI_leI (by omega) (by omega)]
      constructor
      · intro q; rintro (q2 | q2) <;> omega
      · intro q
        rcases Nat.lt_or_ge (p (s - 1)) (p c) with q2 | q2
        · exact absurd (Or.inr q2) q
        · exact q2
  · have hs : s = 0 := Classical.byContradiction (fun q => z ((nu_nng (by omega)).mpr q))
    refine k28 (-1) (fun w hw => ?_) ?_
    · have := hC.1 w hw
      constructor
      · intro q
        rw [Int32.lt_iff_toInt_lt, nI_toInt (by omega)] at q
        have : (-1 : Int32).toInt = -1 := by decide
        omega
      · intro q; exact absurd hs q.1
    · constructor
      · intro q
        rw [Int32.le_iff_toInt_le, nI_toInt (by omega)] at q
        have : (-1 : Int32).toInt = -1 := by decide
        omega
      · intro q; exact absurd (Or.inl hs) q
end MIO4
