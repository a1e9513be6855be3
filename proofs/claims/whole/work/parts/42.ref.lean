/-! the reference's way keeps to AW: access from its first row, harts, the way -/
section MAC4
variable {mo K : Nat} {ch l0 : Nat → Nat} {T0 : St} {σ : AW} {T : St} {h : Nat} {u : Nat → Nat} {b : Nat}
theorem RM0_11 {x : Nat} (hR : RM0 K ch l0 T0 σ T) : RM0 K ch l0 T0 (su σ 11 0 x) T := by
  obtain ⟨r1, r2, r3, r4, r5, r6, r7⟩ := hR
  exact ⟨r1, r2, by simpa [CM, su_g] using r3, by simpa [su_g] using r4, by simpa [su_g] using r5, by simpa [su_g, MF] using r6, by simpa [su_g] using r7⟩
theorem RM0_34 {x : Int32} (hR : RM0 K ch l0 T0 σ T) : RM0 K ch l0 T0 σ (wr T 34 0 x) := by
  obtain ⟨r1, r2, r3, r4, r5, r6, r7⟩ := hR
  refine ⟨fun v i hv => ?_, r2, by simpa [CM, wr_1] using r3, by simpa [wr_1] using r4, by simpa [wr_1] using r5, by simpa [wr_1, MF] using r6, by simpa [wr_1] using r7⟩
  rw [wr_1, if_neg]
  · exact r1 v i hv
  · intro e; subst e; cases hv
theorem RM0_23 {x : Int32} (hR : RM0 K ch l0 T0 σ T) : RM0 K ch l0 T0 σ (wr T 23 (σ 7 0) x) := by
  obtain ⟨r1, r2, r3, r4, r5, r6, r7⟩ := hR
  refine ⟨fun v i hv => ?_, r2, by simpa [CM, wr_1] using r3, by simpa [wr_1] using r4, by simpa [wr_1] using r5, fun i hi => ?_, by simpa [wr_1] using r7⟩
  · rw [wr_1, if_neg]
    · exact r1 v i hv
    · intro e; subst e; cases hv
  · have q : i ≠ σ 7 0 := by omega
    simpa [wr_1, MF, q] using r6 i hi
theorem RM0_reg {k v c : Nat} (hR : RM0 K ch l0 T0 σ T) : RM0 K ch l0 T0 (su (su σ 24 k v) 25 k c) (wr (wr T 11 k (nI v)) 12 k (nI c)) := by
  obtain ⟨r1, r2, r3, r4, r5, r6, r7⟩ := hR
  refine ⟨fun w i hv => ?_, r2, by simpa [CM, wr_1, su_g] using r3, by simpa [wr_1, su_g] using r4, fun j hj => ?_, by simpa [wr_1, MF, su_g] using r6, by simpa [wr_1, su_g] using r7⟩
  · rw [wr_1, if_neg, wr_1, if_neg]
    · exact r1 w i hv
    · intro e; subst e; cases hv
    · intro e; subst e; cases hv
  · by_cases e : j = k
    · subst e; simp [wr_1, su_g]
    · simpa [wr_1, su_g, e] using r5 j hj
theorem RM0_12 {x : Nat} (hR : RM0 K ch l0 T0 σ T) : RM0 K ch l0 T0 (su σ 12 0 x) (wr T 33 0 (nI x)) := by
  obtain ⟨r1, r2, r3, ⟨a, b, c⟩, r5, r6, r7⟩ := hR
  refine ⟨fun v i hv => ?_, r2, by simpa [CM, wr_1, su_g] using r3, by simp [wr_1, su_g, a, c], by simpa [wr_1, su_g] using r5, by simpa [wr_1, MF, su_g] using r6, by simpa [wr_1, su_g] using r7⟩
  rw [wr_1, if_neg]
  · exact r1 v i hv
  · intro e; subst e; cases hv
/-- the choices are of CM alone -/
theorem RM0_ch {lim : Nat} {T' : St} (hR : RM0 K ch l0 T0 σ T) (hC : CM K ch l0 (aCh σ lim) T') (hf : ∀ v i, (v < 7 ∨ 10 < v) → T'.1 v i = T.1 v i) (h2 : T'.2 = T.2) : RM0 K ch l0 T0 (aCh σ lim) T' := by
  obtain ⟨r1, r2, r3, r4, r5, r6, r7⟩ := hR
  have e : ∀ v i, v ≠ 5 → v ≠ 56 → aCh σ lim v i = σ v i := fun v i a c => by unfold aCh; rw [su_g, if_neg (by omega), su_g, if_neg (by omega)]
  refine ⟨fun v i hv => ?_, by rw [h2]; exact r2, hC, ?_, fun k hk => ?_, fun i hi => ?_, fun f hf' => ?_⟩
  · have : v ≤ 6 ∨ 29 ≤ v ∧ v ≤ 32 := by simpa [uM] using hv
    rw [hf v i (by omega)]; exact r1 v i hv
  · rw [hf _ _ (by decide), hf _ _ (by decide), hf _ _ (by decide), e _ _ (by decide) (by decide), e _ _ (by decide) (by decide), e _ _ (by decide) (by decide)]; exact r4
  · rw [hf _ _ (by decide), hf _ _ (by decide), e _ _ (by decide) (by decide), e _ _ (by decide) (by decide)]; exact r5 k hk
  · rw [e _ _ (by decide) (by decide)] at hi
    have := r6 i hi
    unfold MF at this ⊢
    rw [hf 14 i (by decide), hf 15 i (by decide), hf 16 i (by decide), hf 17 i (by decide), hf 18 i (by decide), hf 19 i (by decide), hf 20 i (by decide), hf 21 i (by decide), hf 22 i (by decide), hf 23 i (by decide)]
    rw [e 30 i (by decide) (by decide), e 31 i (by decide) (by decide), e 32 i (by decide) (by decide), e 33 i (by decide) (by decide), e 36 i (by decide) (by decide), e 37 i (by decide) (by decide), e 38 i (by decide) (by decide), e 39 i (by decide) (by decide), e 40 i (by decide) (by decide), e 50 i (by decide) (by decide)]
    exact this
  · rw [e _ _ (by decide) (by decide)] at hf'
    rw [hf 25 f (by decide), hf 26 f (by decide), hf 27 f (by decide), hf 28 f (by decide), e 52 f (by decide) (by decide), e 53 f (by decide) (by decide), e 54 f (by decide) (by decide), e 55 f (by decide) (by decide)]
    exact r7 f hf'
theorem RM0_fence {f1 f2 : Nat} (hR : RM0 K ch l0 T0 σ T) : RM0 K ch l0 T0 (aFence σ h f1 f2) (wr (wr (wr (wr (wr T 25 (σ 51 0) (nI h)) 26 (σ 51 0) (nI (σ 7 0))) 27 (σ 51 0) (nI f1)) 28 (σ 51 0) (nI f2)) 24 0 (nI (σ 51 0 + 1))) := by
  obtain ⟨r1, r2, r3, ⟨a, b, c⟩, r5, r6, r7⟩ := hR
  have e : ∀ v i, v ≠ 14 → v ≠ 15 → (v < 51 ∨ 55 < v) → aFence σ h f1 f2 v i = σ v i := by
    intro v i a b c
    unfold aFence
    simp only [su_g]
    repeat rw [if_neg (by omega)]
  refine ⟨fun v i hv => ?_, r2, ?_, ?_, fun k hk => ?_, fun i hi => ?_, fun f hf' => ?_⟩
  · have : v ≤ 6 ∨ 29 ≤ v ∧ v ≤ 32 := by simpa [uM] using hv
    simp only [wr_1]
    rw [if_neg (by omega), if_neg (by omega), if_neg (by omega), if_neg (by omega), if_neg (by omega)]; exact r1 v i hv
  · have := r3
    unfold CM at this ⊢
    simp only [wr_1, e 5 _ (by decide) (by decide) (by decide), e 56 _ (by decide) (by decide) (by decide)]
    simpa using this
  · simp only [wr_1, e 7 _ (by decide) (by decide) (by decide), e 12 _ (by decide) (by decide) (by decide)]
    simp [a, b, aFence, su_g]
  · simp only [wr_1, e 24 _ (by decide) (by decide) (by decide), e 25 _ (by decide) (by decide) (by decide)]
    simpa using r5 k hk
  · rw [e 7 _ (by decide) (by decide) (by decide)] at hi
    have := r6 i hi
    unfold MF at this ⊢
    simp only [wr_1]
    rw [e 30 i (by decide) (by decide) (by decide), e 31 i (by decide) (by decide) (by decide), e 32 i (by decide) (by decide) (by decide), e 33 i (by decide) (by decide) (by decide), e 36 i (by decide) (by decide) (by decide), e 37 i (by decide) (by decide) (by decide), e 38 i (by decide) (by decide) (by decide), e 39 i (by decide) (by decide) (by decide), e 40 i (by decide) (by decide) (by decide), e 50 i (by decide) (by decide) (by decide)]
    simpa using this
  · have h51 : aFence σ h f1 f2 51 0 = σ 51 0 + 1 := by simp [aFence, su_g]
    rw [h51] at hf'
    simp only [wr_1]
    by_cases z : f = σ 51 0
    · subst z; simp [aFence, su_g]
    · have := r7 f (by omega)
      simp only [aFence, su_g]
      simpa [z] using this
set_option maxHeartbeats 1000000 in
theorem m_access {Q : St → Prop} (hR : RM K ch l0 T0 σ T) (hI : IN σ h) (hK : K ≤ 6) (hch : ∀ j, ch j < 4) (hg : GR u) (hk : u 0 < 6) (hn : σ 7 0 < 6) (hm : σ 5 0 < 6) (hb : b + 6 ≤ 144) (hu : ∀ j, j < 6 → T0.1 1 (b + j) = dcK (u 0) j (u j))
    (hQ : ∀ T', RM K ch l0 T0 (aStep mo u h σ (ch (σ 5 0))).1 T' → Q T') : pX7_access (nI h) (nI b) (nI (u 0)) T Q := by
  obtain ⟨g1, gx, gy, gm, gs, ey, hat⟩ := GR_acc hg hk
  have hh := hI.1
  obtain ⟨hR0, h34⟩ := hR
  obtain ⟨r1, r2, r3, ⟨r13, r33, r24⟩, r5, r6, r7⟩ := id hR0
  have hki : ∀ m, m < 11 → (nI (u 0) = nI m ↔ u 0 = m) := fun m hm => nI_eq (by omega) (by omega)
  have p1 : ∀ j, j < 6 → T.1 1 (b + j) = dcK (u 0) j (u j) := fun j hj => by rw [r1 1 _ rfl]; exact hu j hj
  have p1' : ∀ j, j < 6 → j ≠ yK (u 0) → T.1 1 (b + j) = nI (u j) := fun j hj q => by rw [p1 j hj]; unfold dcK; rw [if_neg q]
  have y2 : 2 ≠ yK (u 0) := by omega
  have hrs := hI.2.2.2.2.2.1
  have hn6 := hI.2.2.2.1
  have g2 : u 2 < 4 := by rcases hg with ⟨q, a, b, -⟩ | ⟨q, a, b, -⟩ | ⟨q, -⟩ | ⟨q, -⟩ | ⟨q, -⟩ | ⟨q, -⟩ <;> omega
  generalize elc : aLoc σ h (u (atK (u 0))) (u (atK (u 0) + 1)) = lc
  have lcb : lc < 3 := by
    rw [← elc]; unfold aLoc; split
    · exact gx
    · exact Nat.mod_lt _ (by decide)
  have k114 : ∀ x4 : Int32, (x4 = 0 ∧ atK (u 0) = 2 ∨ x4 = 1 ∧ atK (u 0) = 3) → bX7_access_114 Q (nI h) (nI b) (nI (u 0)) x4 (nI (4 * h + u 1)) (nI (4 * h + u 2)) (nI (u (atK (u 0) + 1)) - 1) (nI lc) T := by
    intro x4 hx4
    refine ⟨fun z => ?_, fun z => ?_⟩
    · have k5 : ¬ u 0 = 5 := fun q => z ((hki 5 (by decide)).mpr q)
      rw [← elc]
      refine m_214 (mo := mo) hR0 hI hK hch hg hk hn (fun _ => hm) hb hu hx4 (fun q => absurd q k5) (fun T' hT' h34' => hQ T' ?_)
      have es : (aStep mo u h σ (ch (σ 5 0))).1 = aAcc mo u h (if rdK (u 0) then aCh σ 4 else σ) (ch (σ 5 0)) := by
        unfold aStep
        rw [if_neg (by omega), if_neg (by omega), if_neg (by omega), if_neg (by omega), if_neg (by omega), if_neg k5]
      rw [es]
      refine ⟨hT', ?_⟩
      have e11 : ∀ v i, v ≠ 5 → v ≠ 56 → (if rdK (u 0) then aCh σ 4 else σ) v i = σ v i := by
        intro v i a c
        split
        · unfold aCh; rw [su_g, if_neg (by omega), su_g, if_neg (by omega)]
        · rfl
      rw [h34', aAcc_11.1, e11 7 0 (by decide) (by decide), e11 11 0 (by decide) (by decide)]
      by_cases k4 : u 0 = 4
      · rw [if_pos k4, if_pos k4, nI_pred]
      · rw [if_neg k4, if_neg k4]; exact h34
    · have k5 : u 0 = 5 := (hki 5 (by decide)).mp z
      have hs : aStep mo u h σ (ch (σ 5 0)) = (if aMay σ h u then (if ch (σ 5 0) = 1 then (su (aSet (aCh σ 2) h (u 1) 1 0) 11 0 0, 0) else (su (aAcc mo u h (aCh σ 2) 0) 11 0 0, 0)) else (su (aSet σ h (u 1) 1 0) 11 0 0, 0)) := by
        unfold aStep
        rw [if_neg (by omega), if_neg (by omega), if_neg (by omega), if_neg (by omega), if_neg (by omega), if_pos k5]
      rw [hs] at hQ
      have hr5 : rdK (u 0) = false := by rw [k5]; rfl
      have at5 : atK (u 0) = 3 := by rw [k5]; rfl
      rw [at5] at elc
      have ha : vp_in (nI (4 * h + u 1)) 16 := nu_in (by omega) (by decide)
      have hacl : (nI (4 * h + u 1)).toNatClampNeg = 4 * h + u 1 := nu_cl (by omega)
      -- it fails
      have k163 : ∀ (σ1 : AW) (T1 : St), RM0 K ch l0 T0 σ1 T1 → (∀ T', RM K ch l0 T0 (su (aSet σ1 h (u 1) 1 0) 11 0 0) T' → Q T') → bX7_access_163 Q (nI h) (nI b) (nI (u 0)) x4 (nI (4 * h + u 1)) (nI (4 * h + u 2)) (nI (u (atK (u 0) + 1)) - 1) (nI lc) T1 := by
        intro σ1 T1 hT1 hq y45 e45 S46 e46
        refine ⟨fun w => absurd w (by decide), fun _ => ⟨ha, fun S49 e49 => ⟨ha, fun S51 e51 => hq S51 ?_⟩⟩⟩
        rw [hacl] at e49 e51
        subst e51 e49 e46
        refine ⟨RM0_11 ?_, by simp [wr_1, su_g, nI_0]⟩
        exact RM0_reg (k := 4 * h + u 1) (v := 1) (c := 0) (RM0_34 hT1)
      have k146 : aMay σ h u = false → bX7_access_146 Q (nI h) (nI b) (nI (u 0)) x4 (nI (4 * h + u 1)) (nI (4 * h + u 2)) (nI (u (atK (u 0) + 1)) - 1) (nI lc) T := by
        intro q
        rw [q] at hQ
        exact ⟨fun _ => k163 σ T hR0 hQ, fun w => absurd rfl w⟩
      have c34 : T.1 34 0 < 0 ↔ σ 11 0 = 0 := by
        rw [h34]
        constructor
        · intro w
          rcases Nat.eq_zero_or_pos (σ 11 0) with q | q
          · exact q
          · exact absurd w (by rw [nu_pred q]; exact nI_pos (by omega))
        · intro w; rw [w]; decide
      refine ⟨fun w => k146 ?_, fun w => ?_⟩
      · have := c34.mp w
        simp [aMay, this]
      · have h0 : σ 11 0 ≠ 0 := fun q => w (c34.mpr q)
        have e34 : T.1 34 0 = nI (σ 11 0 - 1) := by rw [h34, nu_pred (by omega)]
        rw [e34, nu_cl (by omega), (r6 _ (by omega : σ 11 0 - 1 < σ 7 0)).2.2.1]
        have hB := hI.2.2.2.2.2.2.2.1 (σ 11 0 - 1) (by omega)
        have e1 : nI (σ 32 (σ 11 0 - 1)) = nI lc ↔ σ 32 (σ 11 0 - 1) = lc := nI_eq (by have := hB.2.2.1; omega) (by omega)
        refine ⟨nu_in (by omega) (by decide), fun w2 => k146 ?_, fun w2 => ?_⟩
        · simp [aMay]; intro _; rw [elc]; exact fun q => w2 (e1.mpr q)
        · have may : aMay σ h u = true := by simp [aMay]; exact ⟨h0, by rw [elc]; exact e1.mp w2⟩
          rw [may, if_pos rfl] at hQ
          refine ⟨fun w3 => absurd w3 (by decide), fun _ => ?_⟩
          refine m_choose (lim := 2) r3 hK hm (fun T1 hC1 hf1 h21 => ?_)
          have hR1 := RM0_ch hR0 hC1 hf1 h21
          have hc := hch (σ 5 0)
          have ec : nI (ch (σ 5 0)) = (1 : Int32) ↔ ch (σ 5 0) = 1 := nI_eq (b := 1) (by omega) (by decide)
          refine ⟨fun w3 y45 e45 S46 e46 => ?_, fun w3 => ?_⟩
          · rw [if_neg (fun q => w3 (ec.mpr q))] at hQ
            have hR2 : RM0 K ch l0 T0 (aCh σ 2) S46 := by rw [e46]; exact RM0_34 hR1
            have a7 : aCh σ 2 7 0 = σ 7 0 := by simp [aCh, su_g]
            have a11 : aCh σ 2 11 0 = σ 11 0 := by simp [aCh, su_g]
            have d13 : S46.1 13 0 = nI (σ 7 0) := by rw [hR2.2.2.2.1.1, a7]
            refine ⟨fun _ => ?_, fun w4 => absurd rfl w4⟩
            rw [d13, nu_cl (by omega)]
            refine ⟨nu_in hn (by decide), fun S47 e47 => ?_⟩
            have hR3 : RM0 K ch l0 T0 (aCh σ 2) S47 := by
              rw [e47, ← a7]; exact RM0_23 hR2
            have al : ∀ x y, aLoc (aCh σ 2) h x y = aLoc σ h x y := by intro x y; unfold aLoc aCh; simp [su_g]
            have d34 : T1.1 34 0 = nI (σ 11 0) - 1 := by rw [hf1 34 0 (by decide)]; exact h34
            rw [← elc, ← al, ← at5]
            refine m_214 (mo := mo) hR3 (IN_ch hI hm) hK hch hg hk (by rw [a7]; exact hn) (fun q => by rw [hr5] at q; cases q) hb hu hx4 (fun _ => ?_) (fun T' hT' h34' => hQ T' ?_)
            · rw [e47, a7, a11, wr_1, if_pos rfl, if_pos rfl, e45, d34]
            · rw [hr5] at hT'
              rw [aAcc_g hr5 (g' := ch ((aCh σ 2) 5 0))]
              refine ⟨RM0_11 hT', ?_⟩
              rw [h34', if_neg (by omega), e47, wr_1, if_neg (by decide), e46]
              simp [wr_1, su_g, nI_0]
          · rw [if_pos (ec.mp w3)] at hQ
            exact k163 _ T1 hR1 hQ
  have k20 : ∀ t0 : Int32, (t0 = 0 ∧ atK (u 0) = 2 ∨ t0 = 1 ∧ atK (u 0) = 3) → bX7_access_20 Q (nI h) (nI b) (nI (u 0)) t0 T := by
    intro t0 ht0
    have e1 : nI b + (1 : Int32) = nI (b + 1) := nI_1 b
    have e2 : nI b + (2 : Int32) = nI (b + 2) := nI_add b 2
    have k84 : ∀ t2 : Int32, t2 = nI (atK (u 0) + 1) → bX7_access_84 Q (nI h) (nI b) (nI (u 0)) t0 (nI (4 * h + u 1)) (nI (4 * h + u 2)) (nI (u (atK (u 0)))) (nI b) t2 T := by
      intro t2 et
      subst et
      unfold bX7_access_84
      rw [nI_add, nu_cl (by omega)]
      refine ⟨nu_in (by omega) (by decide), fun y63 e63 => ?_⟩
      have ey63 : y63 = nI (u (atK (u 0) + 1)) - 1 := by
        rw [e63, p1 _ (by omega)]; unfold dcK; rw [if_pos (by omega)]
      clear e63
      subst ey63
      have q := k114 t0 ht0
      refine ⟨fun z => ?_, fun z => ?_⟩
      · have hy : u (atK (u 0) + 1) ≠ 0 := by
          intro q; rw [q] at z; revert z; decide
        have e4 : (4 : Int32) * nI h + (nI (u (atK (u 0) + 1)) - 1) = nI (4 * h + (u (atK (u 0) + 1) - 1)) := by
          rw [nu_pred (by omega), nu_4, pk_mul, nI_add]
        have hv := hI.2.2.2.2.1 (4 * h + (u (atK (u 0) + 1) - 1)) (by omega)
        rw [e4, nu_cl (by omega), (r5 _ (by omega)).1, nI_add, nu_m3 (by omega)]
        refine ⟨nu_in (by omega) (by decide), ?_⟩
        have : lc = (u (atK (u 0)) + σ 24 (4 * h + (u (atK (u 0) + 1) - 1))) % 3 := by rw [← elc]; unfold aLoc; rw [if_neg hy]
        rw [← this]
        exact q
      · have hy : u (atK (u 0) + 1) = 0 := by
          rcases Nat.eq_zero_or_pos (u (atK (u 0) + 1)) with q | q
          · exact q
          · exact absurd (by rw [nu_pred q]; exact nI_pos' (by omega)) z
        have : lc = u (atK (u 0)) := by rw [← elc]; unfold aLoc; rw [if_pos hy]
        rw [← this]
        exact q
    have k65 : ∀ t2 : Int32, t2 = nI (atK (u 0)) → bX7_access_65 Q (nI h) (nI b) (nI (u 0)) t0 (nI (4 * h + u 1)) (nI (4 * h + u 2)) (nI b) t2 T := by
      intro t2 et
      subst et
      unfold bX7_access_65
      rw [nI_add, nu_cl (by omega)]
      refine ⟨nu_in (by omega) (by decide), fun y67 e67 => ?_⟩
      rw [p1' _ (by omega) (by omega)] at e67
      subst e67
      refine ⟨fun z => k84 _ ?_, fun z => k84 _ ?_⟩
      · rcases ht0 with ⟨a, c⟩ | ⟨a, c⟩
        · rw [c]; rfl
        · rw [a] at z; exact absurd z (by decide)
      · rcases ht0 with ⟨a, c⟩ | ⟨a, c⟩
        · exact absurd a z
        · rw [c]; rfl
    unfold bX7_access_20
    rw [e1, e2, nu_cl (by omega), nu_cl (by omega), p1' 1 (by decide) (by omega), p1' 2 (by decide) y2, nu_4, pk_mul, nI_add, nI_add]
    refine ⟨nu_in (by omega) (by decide), fun y70 e70 => ⟨nu_in (by omega) (by decide), fun y72 e72 => ?_⟩⟩
    subst e70 e72
    refine ⟨fun z => k65 _ ?_, fun z => k65 _ ?_⟩
    · rcases ht0 with ⟨a, c⟩ | ⟨a, c⟩
      · rw [c]; rfl
      · rw [a] at z; exact absurd z (by decide)
    · rcases ht0 with ⟨a, c⟩ | ⟨a, c⟩
      · exact absurd a z
      · rw [c]; rfl
  refine ⟨fun z => k20 1 (Or.inr ⟨rfl, ?_⟩), fun z2 => ⟨fun z => k20 1 (Or.inr ⟨rfl, ?_⟩), fun z3 => ⟨fun z5 => k20 0 (Or.inl ⟨rfl, ?_⟩), fun z => k20 1 (Or.inr ⟨rfl, ?_⟩)⟩⟩⟩
  · rw [(hki 2 (by decide)).mp z]; rfl
  · rw [(hki 3 (by decide)).mp z]; rfl
  · unfold atK
    rw [if_neg]
    rintro (q | q | q)
    · exact z2 ((hki 2 (by decide)).mpr q)
    · exact z3 ((hki 3 (by decide)).mpr q)
    · exact z5 ((hki 5 (by decide)).mpr q)
  · rw [(hki 5 (by decide)).mp z]; rfl
end MAC4
