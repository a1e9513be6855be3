/-! the reference: whether an order is one -/
section MIO
variable {mo : Nat} {σ : AW} {p : Nat → Nat} {T : St}
/-- a way and a place for each of its accesses -/
def MP (σ : AW) (p : Nat → Nat) (T : St) : Prop := T.1 13 0 = nI (σ 7 0) ∧ (∀ i, i < σ 7 0 → MF σ T i) ∧ (∀ i, i < σ 7 0 → T.1 31 i = nI (p i))
theorem srcR_le {b : Nat} : srcR σ p b ≤ σ 7 0 := by
  by_cases z : srcR σ p b = 0
  · omega
  · have := (src_s z).1; omega
theorem m_sourceOf {b : Nat} {Q : Int32 → St → Prop} (hW : WS mo σ) (hC : CO σ p) (hM : MP σ p T) (hb : b < σ 7 0) (hQ : Q (nI (srcR σ p b) - 1) T) : pX7_sourceOf (nI b) T Q := by
  have h6 := hW.1.1
  obtain ⟨h13, hF, h31⟩ := hM
  have loop : ∀ c w, w + c = σ 7 0 → itr (F := Int32 → Int32 → Int32 → St → Prop) (fun _ _ _ _ => False) (fun k4 x1 x2 x3 S => bX7_sourceOf_4 k4 Q x1 x2 x3 S) (c + 1) (nI b) (nI (amx (srQ σ p b) p w) - 1) (nI w) T := by
    intro c
    induction c with
    | zero =>
      intro w hw
      have : w = σ 7 0 := by omega
      subst this
      exact ⟨fun _ => hQ, fun z => absurd (by rw [h13]; exact nI_le (by omega) (by omega)) z⟩
    | succ c ih =>
      intro w hw
      have hwn : w < σ 7 0 := by omega
      have hiw : vp_in (nI w) 6 := nu_in (by omega) (by decide)
      have hib : vp_in (nI b) 6 := nu_in (by omega) (by decide)
      have am : amx (srQ σ p b) p w ≤ 6 := by
        by_cases z : amx (srQ σ p b) p w = 0
        · omega
        · have := (amx_s _ z).1; omega
      have yes : (srQ σ p b w = true ∧ (amx (srQ σ p b) p w = 0 ∨ p (amx (srQ σ p b) p w - 1) < p w)) → bX7_sourceOf_106 (itr (F := Int32 → Int32 → Int32 → St → Prop) (fun _ _ _ _ => False) (fun k4 x1 x2 x3 S => bX7_sourceOf_4 k4 Q x1 x2 x3 S) (c + 1)) Q (nI b) (nI w) T := by
        intro cc y1 e1
        have := ih (w + 1) (by omega)
        rw [amx, if_pos cc, nI_pred] at this
        rw [e1, nI_1]; exact this
      have no : ¬ (srQ σ p b w = true ∧ (amx (srQ σ p b) p w = 0 ∨ p (amx (srQ σ p b) p w - 1) < p w)) → bX7_sourceOf_110 (itr (F := Int32 → Int32 → Int32 → St → Prop) (fun _ _ _ _ => False) (fun k4 x1 x2 x3 S => bX7_sourceOf_4 k4 Q x1 x2 x3 S) (c + 1)) Q (nI b) (nI (amx (srQ σ p b) p w) - 1) (nI w) T := by
        intro cc y1 e1
        have := ih (w + 1) (by omega)
        rw [amx, if_neg cc] at this
        rw [e1, nI_1]; exact this
      have pbw := hC.1 w hwn
      have pbb := hC.1 b hb
      have k80 : ∀ (t0 : Int32) (B : Bool), t0 = zI B → B = srQ σ p b w → bX7_sourceOf_80 (itr (F := Int32 → Int32 → Int32 → St → Prop) (fun _ _ _ _ => False) (fun k4 x1 x2 x3 S => bX7_sourceOf_4 k4 Q x1 x2 x3 S) (c + 1)) Q (nI b) (nI (amx (srQ σ p b) p w) - 1) (nI w) t0 T := by
        intro t0 B et hB
        rw [et, hB]
        refine ⟨fun z => no (fun q => by rw [q.1] at z; exact absurd z (by decide)), fun z => ⟨fun z2 => yes ⟨(zI_1 _).mp z, Or.inl ((nu_neg (by omega)).mp z2)⟩, fun z2 => ?_⟩⟩
        have hne : amx (srQ σ p b) p w ≠ 0 := fun q => z2 ((nu_neg (by omega)).mpr q)
        have ham := (amx_s _ hne).1
        have pb2 := hC.1 (amx (srQ σ p b) p w - 1) (by omega)
        have ec : nI (p w) ≤ nI (p (amx (srQ σ p b) p w - 1)) ↔ p w ≤ p (amx (srQ σ p b) p w - 1) := nI_leI (by omega) (by omega)
        rw [nu_pred (by omega), nu_cl (by omega), nu_cl (by omega), h31 w hwn, h31 _ (by omega)]
        refine ⟨hiw, nu_in (by omega) (by decide), fun z4 => ?_, fun z4 => yes ⟨(zI_1 _).mp z, Or.inr ?_⟩⟩
        · have := no (fun q => by
            have := ec.mp z4
            rcases q.2 with q | q
            · exact hne q
            · omega)
          rw [nu_pred (by omega)] at this
          exact this
        · rcases Nat.lt_or_ge (p (amx (srQ σ p b) p w - 1)) (p w) with q | q
          · exact q
          · exact absurd (ec.mpr q) z4
      have k79 : ¬ (w ≠ b ∧ wtK (σ 31 w) = true ∧ σ 32 w = σ 32 b ∧ (p w < p b ∨ σ 30 w = σ 30 b ∧ w < b)) → bX7_sourceOf_79 (itr (F := Int32 → Int32 → Int32 → St → Prop) (fun _ _ _ _ => False) (fun k4 x1 x2 x3 S => bX7_sourceOf_4 k4 Q x1 x2 x3 S) (c + 1)) Q (nI b) (nI (amx (srQ σ p b) p w) - 1) (nI w) T := by
        intro hno
        refine k80 0 false rfl ?_
        cases e : srQ σ p b w
        · rfl
        · exact absurd (srQ_t.mp e) hno
      have k75 : (w ≠ b ∧ wtK (σ 31 w) = true ∧ σ 32 w = σ 32 b ∧ (p w < p b ∨ σ 30 w = σ 30 b ∧ w < b)) → bX7_sourceOf_75 (itr (F := Int32 → Int32 → Int32 → St → Prop) (fun _ _ _ _ => False) (fun k4 x1 x2 x3 S => bX7_sourceOf_4 k4 Q x1 x2 x3 S) (c + 1)) Q (nI b) (nI (amx (srQ σ p b) p w) - 1) (nI w) T := fun h => k80 1 true rfl (srQ_t.mpr h).symm
      have iw := hW.1.2.2.2 w hwn
      have ib := hW.1.2.2.2 b hb
      have e0 : nI w = nI b ↔ w = b := nI_eq (by omega) (by omega)
      have e32 : nI (σ 32 w) = nI (σ 32 b) ↔ σ 32 w = σ 32 b := nI_eq (by have := iw.2.2.1; omega) (by have := ib.2.2.1; omega)
      have e30 : nI (σ 30 w) = nI (σ 30 b) ↔ σ 30 w = σ 30 b := nI_eq (by have := iw.1; omega) (by have := ib.1; omega)
      have ep : nI (p w) < nI (p b) ↔ p w < p b := nI_ltI (by omega) (by omega)
      have el : nI b ≤ nI w ↔ b ≤ w := nI_leI (by omega) (by omega)
      refine ⟨fun z => by rw [h13, nI_leI (by omega) (by omega)] at z; omega, fun _ => ⟨fun z => k79 (fun q => q.1 (e0.mp z)), fun z => ?_⟩⟩
      refine m_writes hW hwn hF ⟨fun z2 => k79 (fun q => by rw [q.2.1] at z2; exact absurd z2 (by decide)), fun z2 => ⟨hiw, hib, ?_⟩⟩
      have hwt := (zI_1 _).mp z2
      have hwb : w ≠ b := fun q => z (e0.mpr q)
      rw [nu_cl (by omega), nu_cl (by omega), (hF w hwn).2.2.1, (hF b hb).2.2.1, h31 w hwn, h31 b hb, (hF w hwn).1, (hF b hb).1]
      refine ⟨fun z3 => k79 (fun q => z3 (e32.mpr q.2.2.1)), fun z3 => ⟨hiw, hib, fun z4 => k75 ⟨hwb, hwt, e32.mp z3, Or.inl (ep.mp z4)⟩, fun z4 => ⟨hiw, hib, fun z5 => k79 (fun q => ?_), fun z5 => ⟨fun z6 => k79 (fun q => ?_), fun z6 => k75 ⟨hwb, hwt, e32.mp z3, Or.inr ⟨e30.mp z5, ?_⟩⟩⟩⟩⟩⟩
      · rcases q.2.2.2 with q | q
        · exact z4 (ep.mpr q)
        · exact z5 (e30.mpr q.1)
      · have := el.mp z6
        rcases q.2.2.2 with q | q
        · exact z4 (ep.mpr q)
        · omega
      · rcases Nat.lt_or_ge w b with q | q
        · exact q
        · exact absurd (el.mpr q) z6
  exact ⟨σ 7 0 + 1, loop (σ 7 0) 0 (by omega)⟩
end MIO
