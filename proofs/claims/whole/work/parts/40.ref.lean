/-! the reference's way keeps to AW: access -/
section MAC2
variable {mo K : Nat} {ch l0 : Nat → Nat} {T0 : St} {σ : AW} {T : St} {h : Nat} {u : Nat → Nat} {at' : Nat}
set_option maxHeartbeats 1000000 in
theorem m_392 {σ1 : AW} {gt : Nat} {T9 : St} {Q : St → Prop} (hR : RM0 K ch l0 T0 σ T) (hg : GR u) (hk : u 0 < 6) (hn : σ 7 0 < 6) (hI : IN σ h) (h1 : ∀ v i, v ≠ 5 → v ≠ 56 → σ1 v i = σ v i) (hgt : gt < 4) (hC : CM K ch l0 σ1 T9) (h2 : T9.2 = T.2)
    (hf : ∀ v i, (v < 7 ∨ 10 < v) → T9.1 v i = (if v = 13 ∧ i = 0 then nI (σ 7 0 + 1) else if v = 14 ∧ i = σ 7 0 then nI h else if v = 15 ∧ i = σ 7 0 then nI (u 0) else if v = 16 ∧ i = σ 7 0 then nI (aLoc σ h (u (atK (u 0))) (u (atK (u 0) + 1))) else if v = 19 ∧ i = σ 7 0 then nI (u (atK (u 0) + 2)) else if v = 20 ∧ i = σ 7 0 then nI (if u (atK (u 0) + 1) = 0 then 0 else σ 25 (4 * h + (u (atK (u 0) + 1) - 1))) else if v = 22 ∧ i = σ 7 0 then nI (σ 12 0) else if v = 21 ∧ i = σ 7 0 then nI (if wtK (u 0) then σ 25 (4 * h + u (atK (u 0) - 1)) else 0) else T.1 v i))
    (h23 : u 0 = 5 → T.1 23 (σ 7 0) = nI (σ 11 0) - 1)
    (hQ : ∀ T', RM0 K ch l0 T0 (aAcc mo u h σ1 gt) T' → T'.1 34 0 = (if u 0 = 4 then nI (σ 7 0) else T.1 34 0) → Q T') :
    bX7_access_392 Q (nI (u 0)) (nI (4 * h + u 1)) (nI (σ 7 0)) (nI (if wtK (u 0) then σ 24 (4 * h + u (atK (u 0) - 1)) else 0)) (nI (if rdK (u 0) then gt else 0)) T9 := by
  obtain ⟨g1, gx, gy, gm, gs, ey, hat⟩ := GR_acc hg hk
  have hh := hI.1
  have hin : vp_in (nI (σ 7 0)) 6 := nu_in hn (by decide)
  have hcl : (nI (σ 7 0)).toNatClampNeg = σ 7 0 := nu_cl (by omega)
  have ha : vp_in (nI (4 * h + u 1)) 16 := nu_in (by omega) (by decide)
  have hacl : (nI (4 * h + u 1)).toNatClampNeg = 4 * h + u 1 := nu_cl (by omega)
  have hki : ∀ m, m < 11 → (nI (u 0) = nI m ↔ u 0 = m) := fun m hm => nI_eq (by omega) (by omega)
  have hd1 : nI (u 0) = (1 : Int32) ↔ u 0 = 1 := hki 1 (by decide)
  have hd3 : nI (u 0) = (3 : Int32) ↔ u 0 = 3 := hki 3 (by decide)
  have hd4 : nI (u 0) = (4 : Int32) ↔ u 0 = 4 := hki 4 (by decide)
  have hd5 : nI (u 0) = (5 : Int32) ↔ u 0 = 5 := hki 5 (by decide)
  have hgt' : (if rdK (u 0) = true then gt else 0) < 4 := by split <;> omega
  have hpt' : (if wtK (u 0) = true then σ 24 (4 * h + u (atK (u 0) - 1)) else 0) < 4 := by
    split
    · rename_i q; exact (hI.2.2.2.2.1 _ (by have := gs q; omega)).1
    · decide
  generalize hgg : (if rdK (u 0) = true then gt else 0) = gg at *
  have eput : (if wtK (u 0) = true then (σ 24 (4 * h + u (atK (u 0) - 1)) + (if u 0 = 3 then gg else 0)) % 4 else 0) = ((if wtK (u 0) = true then σ 24 (4 * h + u (atK (u 0) - 1)) else 0) + (if u 0 = 3 then gg else 0)) % 4 := by
    by_cases q : wtK (u 0) = true
    · rw [if_pos q, if_pos q]
    · rw [if_neg q, if_neg q, if_neg]
      intro e; rw [e] at q; exact q rfl
  generalize hpp : (if wtK (u 0) = true then σ 24 (4 * h + u (atK (u 0) - 1)) else 0) = pp at *
  have k426 : ∀ T10 : St, T10 = wr T9 17 (σ 7 0) (nI gg) → bX7_access_426 Q (nI (u 0)) (nI (4 * h + u 1)) (nI (σ 7 0)) (nI gg) (nI (σ 7 0)) (nI ((pp + (if u 0 = 3 then gg else 0)) % 4)) T10 := by
    intro T10 e10
    refine ⟨hin, fun S7 e7 => ?_⟩
    rw [hcl] at e7
    have k461 : ∀ T13 : St, T13 = (if u 0 = 1 then S7 else wr (wr S7 11 (4 * h + u 1) (nI gg)) 12 (4 * h + u 1) (nI (2 ^ σ 7 0))) → bX7_access_461 Q (nI (u 0)) (nI (σ 7 0)) T13 := by
      intro T13 e13
      have fin : ∀ T14 : St, T14 = (if u 0 = 4 then wr T13 34 0 (nI (σ 7 0)) else T13) → Q T14 := by
        intro T14 e14
        have f9 : ∀ v i, v ≠ 34 → T14.1 v i = (if v = 17 ∧ i = σ 7 0 then nI gg else if v = 18 ∧ i = σ 7 0 then nI ((pp + (if u 0 = 3 then gg else 0)) % 4) else if v = 11 ∧ (u 0 ≠ 1 ∧ i = 4 * h + u 1) then nI gg else if v = 12 ∧ (u 0 ≠ 1 ∧ i = 4 * h + u 1) then nI (2 ^ σ 7 0) else T9.1 v i) := by
          intro v i hv
          have e : T14.1 v i = T13.1 v i := by
            rw [e14]; split
            · rw [wr_1, if_neg hv]
            · rfl
          rw [e, e13]
          by_cases k1 : u 0 = 1
          · rw [if_pos k1, e7, e10]
            simp only [wr_1]
            by_cases v18 : v = 18
            · subst v18; by_cases z : i = σ 7 0 <;> simp [z, k1]
            · by_cases v17 : v = 17
              · subst v17; by_cases z : i = σ 7 0 <;> simp [z, k1]
              · simp [v17, v18, k1]
          · rw [if_neg k1, e7, e10]
            simp only [wr_1]
            by_cases v18 : v = 18
            · subst v18; by_cases z : i = σ 7 0 <;> simp [z, k1]
            · by_cases v17 : v = 17
              · subst v17; by_cases z : i = σ 7 0 <;> simp [z, k1]
              · by_cases v11 : v = 11
                · subst v11; by_cases z : i = 4 * h + u 1 <;> simp [z, k1]
                · by_cases v12 : v = 12
                  · subst v12; by_cases z : i = 4 * h + u 1 <;> simp [z, k1]
                  · simp [v17, v18, v11, v12]
        have f34 : T14.1 34 0 = (if u 0 = 4 then nI (σ 7 0) else T.1 34 0) := by
          have h9 : T9.1 34 0 = T.1 34 0 := by rw [hf 34 0 (by decide)]; simp
          rw [e14]
          by_cases k4 : u 0 = 4
          · rw [if_pos k4, if_pos k4]; simp [wr_1]
          · rw [if_neg k4, if_neg k4, e13]
            by_cases k1 : u 0 = 1
            · rw [if_pos k1, e7, e10]; simpa [wr_1] using h9
            · rw [if_neg k1, e7, e10]; simpa [wr_1] using h9
        have t2 : T14.2 = T.2 := by
          rw [← h2, e14]
          have : T13.2 = T9.2 := by
            rw [e13]; split
            · rw [e7, e10]; rfl
            · rw [e7, e10]; rfl
          split <;> exact this
        refine hQ T14 ?_ f34
        refine RM_acc hR g1 hh h1 hgt ?_ t2 (fun v i hv => ?_) h23
        · obtain ⟨c10, c9, c7, c0, c8⟩ := hC
          have q : ∀ v i, 7 ≤ v → v ≤ 10 → T14.1 v i = T9.1 v i := by
            intro v i q1 q2
            rw [f9 v i (by omega)]
            repeat rw [if_neg (by omega)]
          exact ⟨by rw [q _ _ (by decide) (by decide)]; exact c10, by rw [q _ _ (by decide) (by decide)]; exact c9, fun j hj => by rw [q _ _ (by decide) (by decide), q _ _ (by decide) (by decide)]; exact c7 j hj, c0, fun j hj hj2 => by rw [q _ _ (by decide) (by decide), q _ _ (by decide) (by decide)]; exact c8 j hj hj2⟩
        · rw [hgg, eput]
          by_cases v34 : v = 34
          · subst v34; simp
          · rw [f9 v i v34, hf v i hv]
            by_cases v17 : v = 17
            · subst v17; simp
            · by_cases v18 : v = 18
              · subst v18; simp
              · by_cases v11 : v = 11
                · subst v11; simp
                · by_cases v12 : v = 12
                  · subst v12; simp
                  · simp [v17, v18, v11, v12, v34]
      refine ⟨fun z => fin T13 ?_, fun z S1 e1 => fin S1 ?_⟩
      · rw [if_neg (fun q => z (hd4.mpr q))]
      · rw [if_pos (hd4.mp z)]; exact e1
    have k449 : ¬ u 0 = 1 → bX7_access_449 Q (nI (u 0)) (nI (4 * h + u 1)) (nI (σ 7 0)) (nI (4 * h + u 1)) (nI gg) S7 := by
      intro k1
      refine ⟨ha, fun S3 e3 => ⟨ha, fun S5 e5 => k461 S5 ?_⟩⟩
      rw [if_neg k1, e5, e3, hacl, nu_sh _ hn]
    refine ⟨fun z => ?_, fun z => ?_⟩
    · have k1 := hd1.mp z
      exact k461 S7 (by rw [if_pos k1])
    · have k1 : ¬ u 0 = 1 := fun q => z (hd1.mpr q)
      refine ⟨fun _ => k449 k1, fun z5 => ?_⟩
      have k5 := hd5.mp z5
      have : gg = 0 := by rw [← hgg, k5]; rfl
      have q := k449 k1
      rw [this] at q
      exact q
  refine ⟨hin, fun S11 e11 => ?_⟩
  rw [hcl] at e11
  refine ⟨fun z => ?_, fun z => ?_⟩
  · have k3 : ¬ u 0 = 3 := fun q => z (hd3.mpr q)
    have q := k426 S11 e11
    rw [if_neg k3, Nat.add_zero, Nat.mod_eq_of_lt hpt'] at q
    exact q
  · have k3 := hd3.mp z
    have q := k426 S11 e11
    rw [if_pos k3] at q
    rw [nu_an3 _ hpt' _ hgt']
    exact q
end MAC2
