/-! the reference's way keeps to AW: choose, access -/
section ANEW
variable {mo : Nat} {u : Nat → Nat} {h : Nat} {σ : AW} {g : Nat}
theorem aAcc_new : aAcc mo u h σ g 30 (σ 7 0) = h ∧ aAcc mo u h σ g 31 (σ 7 0) = u 0 ∧ aAcc mo u h σ g 32 (σ 7 0) = aLoc σ h (u (atK (u 0))) (u (atK (u 0) + 1)) ∧ aAcc mo u h σ g 33 (σ 7 0) = u (atK (u 0) + 2) ∧ aAcc mo u h σ g 36 (σ 7 0) = (if rdK (u 0) then g else 0) ∧ aAcc mo u h σ g 37 (σ 7 0) = (if wtK (u 0) then (σ 24 (4 * h + u (atK (u 0) - 1)) + (if u 0 = 3 then (if rdK (u 0) then g else 0) else 0)) % 4 else 0) ∧
    aAcc mo u h σ g 38 (σ 7 0) = (if u (atK (u 0) + 1) = 0 then 0 else σ 25 (4 * h + (u (atK (u 0) + 1) - 1))) ∧ aAcc mo u h σ g 39 (σ 7 0) = (if wtK (u 0) then σ 25 (4 * h + u (atK (u 0) - 1)) else 0) ∧ aAcc mo u h σ g 40 (σ 7 0) = (if u 0 = 5 then σ 11 0 else 0) ∧ aAcc mo u h σ g 50 (σ 7 0) = σ 12 0 := by
  obtain ⟨lc, bp, bv, rs, gt, pt, af, ow, tw, elc, ebp, ebv, ers, egt, ept, eaf, eow, etw, e⟩ := aAcc_eq mo u h σ g
  rw [e _ rfl, ← elc, ← ebp, ← ebv, ← ers, ← egt, ← ept]
  split <;> split <;> simp [aSet, su_g]
theorem aAcc_new2 : aAcc mo u h σ g 41 (σ 7 0) = ownF (owP σ (aLoc σ h (u (atK (u 0))) (u (atK (u 0) + 1)))) (σ 10 0) (σ 7 0) ∧ aAcc mo u h σ g 42 (σ 7 0) = msk (twP σ (u 0) (aLoc σ h (u (atK (u 0))) (u (atK (u 0) + 1)))) (σ 10 0) (σ 7 0) ∧
    aAcc mo u h σ g 43 (σ 7 0) = msk (orP mo σ (u 0) (aLoc σ h (u (atK (u 0))) (u (atK (u 0) + 1))) (u (atK (u 0) + 2)) ((if u (atK (u 0) + 1) = 0 then 0 else σ 25 (4 * h + (u (atK (u 0) + 1) - 1))) ||| (if wtK (u 0) then σ 25 (4 * h + u (atK (u 0) - 1)) else 0)) (if u 0 = 5 then σ 11 0 else 0)) (σ 10 0) (σ 7 0) := by
  obtain ⟨lc, bp, bv, rs, gt, pt, af, ow, tw, elc, ebp, ebv, ers, egt, ept, eaf, eow, etw, e⟩ := aAcc_eq mo u h σ g
  rw [e _ rfl, ← elc, ← ebp, ← ebv, ← ers, ← eaf, ← eow, ← etw]
  split <;> split <;> simp [aSet, su_g]
theorem aAcc_reg (k : Nat) : aAcc mo u h σ g 24 k = (if u 0 ≠ 1 ∧ k = 4 * h + u 1 then (if rdK (u 0) then g else 0) % 4 else σ 24 k) ∧ aAcc mo u h σ g 25 k = (if u 0 ≠ 1 ∧ k = 4 * h + u 1 then 2 ^ σ 7 0 else σ 25 k) := by
  obtain ⟨lc, bp, bv, rs, gt, pt, af, ow, tw, elc, ebp, ebv, ers, egt, ept, eaf, eow, etw, e⟩ := aAcc_eq mo u h σ g
  rw [e _ rfl, ← egt]
  by_cases k1 : u 0 = 1
  · rw [if_pos k1]; simp [su_g, k1]
  · rw [if_neg k1]
    by_cases z : k = 4 * h + u 1
    · split <;> simp [aSet, su_g, k1, z]
    · split <;> simp [aSet, su_g, z]
theorem aAcc_11 : aAcc mo u h σ g 11 0 = (if u 0 = 4 then σ 7 0 + 1 else σ 11 0) ∧ aAcc mo u h σ g 13 0 = σ 13 0 ||| (if u (atK (u 0) + 1) = 0 then 0 else σ 25 (4 * h + (u (atK (u 0) + 1) - 1))) := by
  obtain ⟨lc, bp, bv, rs, gt, pt, af, ow, tw, elc, ebp, ebv, ers, egt, ept, eaf, eow, etw, e⟩ := aAcc_eq mo u h σ g
  rw [e _ rfl, ← ebp]
  split <;> split <;> simp [aSet, su_g]
end ANEW
def uM (v : Nat) : Bool := decide (v ≤ 6) || (decide (29 ≤ v) && decide (v ≤ 32))
/-- the choices -/
def CM (K : Nat) (ch l0 : Nat → Nat) (σ : AW) (T : St) : Prop :=
  T.1 10 0 = nI (σ 5 0) ∧ T.1 9 0 = nI (max K (σ 5 0)) ∧ (∀ j, j < K → T.1 7 j = nI (ch j) ∧ T.1 8 j = nI (l0 j)) ∧ (∀ j, K ≤ j → ch j = 0) ∧ (∀ j, K ≤ j → j < σ 5 0 → T.1 7 j = 0 ∧ T.1 8 j = nI (σ 56 j))
/-- an access -/
def MF (σ : AW) (T : St) (i : Nat) : Prop :=
  T.1 14 i = nI (σ 30 i) ∧ T.1 15 i = nI (σ 31 i) ∧ T.1 16 i = nI (σ 32 i) ∧ T.1 17 i = nI (σ 36 i) ∧ T.1 18 i = nI (σ 37 i) ∧ T.1 19 i = nI (σ 33 i) ∧ T.1 20 i = nI (σ 38 i) ∧ T.1 21 i = nI (σ 39 i) ∧ T.1 22 i = nI (σ 50 i) ∧ (σ 31 i = 5 → T.1 23 i = nI (σ 40 i) - 1)
def RM0 (K : Nat) (ch l0 : Nat → Nat) (T0 : St) (σ : AW) (T : St) : Prop :=
  (∀ v i, uM v = true → T.1 v i = T0.1 v i) ∧ T.2 = T0.2 ∧ CM K ch l0 σ T ∧ (T.1 13 0 = nI (σ 7 0) ∧ T.1 33 0 = nI (σ 12 0) ∧ T.1 24 0 = nI (σ 51 0)) ∧
  (∀ k, k < 16 → T.1 11 k = nI (σ 24 k) ∧ T.1 12 k = nI (σ 25 k)) ∧ (∀ i, i < σ 7 0 → MF σ T i) ∧
  (∀ f, f < σ 51 0 → T.1 25 f = nI (σ 52 f) ∧ T.1 26 f = nI (σ 53 f) ∧ T.1 27 f = nI (σ 54 f) ∧ T.1 28 f = nI (σ 55 f))
def RM (K : Nat) (ch l0 : Nat → Nat) (T0 : St) (σ : AW) (T : St) : Prop := RM0 K ch l0 T0 σ T ∧ T.1 34 0 = nI (σ 11 0) - 1
theorem m_isReading {k : Nat} {Q : Int32 → Prop} (hk : k < 11) (hQ : Q (zI (rdK k))) : pX7_isReading (nI k) Q := by
  have e : ∀ m, m < 11 → (nI k = nI m ↔ k = m) := fun m hm => nI_eq (by omega) (by omega)
  have y : rdK k = true → bX7_isReading_19 Q := fun q => ⟨Or.inr rfl, by rw [q] at hQ; exact hQ⟩
  refine ⟨fun z => y ?_, fun z0 => ⟨fun z => y ?_, fun z2 => ⟨fun z => y ?_, fun z3 => ⟨fun z4 => ?_, fun z => y ?_⟩⟩⟩⟩
  · have : k = 0 := (e 0 (by decide)).mp z
    subst this; rfl
  · have : k = 2 := (e 2 (by decide)).mp z
    subst this; rfl
  · have : k = 3 := (e 3 (by decide)).mp z
    subst this; rfl
  · have n0 : k ≠ 0 := fun q => z0 ((e 0 (by decide)).mpr q)
    have n2 : k ≠ 2 := fun q => z2 ((e 2 (by decide)).mpr q)
    have n3 : k ≠ 3 := fun q => z3 ((e 3 (by decide)).mpr q)
    have n4 : k ≠ 4 := fun q => z4 ((e 4 (by decide)).mpr q)
    have : rdK k = false := by simp [rdK, n0, n2, n3, n4]
    rw [this] at hQ
    exact ⟨Or.inl rfl, hQ⟩
  · have : k = 4 := (e 4 (by decide)).mp z
    subst this; rfl
theorem m_isWriting {k : Nat} {Q : Int32 → Prop} (hk : k < 11) (hQ : Q (zI (wtK k))) : pX7_isWriting (nI k) Q := by
  have e : ∀ m, m < 11 → (nI k = nI m ↔ k = m) := fun m hm => nI_eq (by omega) (by omega)
  have y : wtK k = true → bX7_isWriting_20 Q := fun q => ⟨Or.inr rfl, by rw [q] at hQ; exact hQ⟩
  refine ⟨fun z => y ?_, fun z0 => ⟨fun z => y ?_, fun z2 => ⟨fun z => y ?_, fun z3 => ⟨fun z4 => ?_, fun z => y ?_⟩⟩⟩⟩
  · have : k = 1 := (e 1 (by decide)).mp z
    subst this; rfl
  · have : k = 2 := (e 2 (by decide)).mp z
    subst this; rfl
  · have : k = 3 := (e 3 (by decide)).mp z
    subst this; rfl
  · have n0 : k ≠ 1 := fun q => z0 ((e 1 (by decide)).mpr q)
    have n2 : k ≠ 2 := fun q => z2 ((e 2 (by decide)).mpr q)
    have n3 : k ≠ 3 := fun q => z3 ((e 3 (by decide)).mpr q)
    have n4 : k ≠ 5 := fun q => z4 ((e 5 (by decide)).mpr q)
    have : wtK k = false := by simp [wtK, n0, n2, n3, n4]
    rw [this] at hQ
    exact ⟨Or.inl rfl, hQ⟩
  · have : k = 5 := (e 5 (by decide)).mp z
    subst this; rfl
theorem nu_an3 : ∀ a, a < 4 → ∀ b, b < 4 → (nI a + nI b) &&& (3 : Int32) = nI ((a + b) % 4) := by decide +kernel
section MCH
variable {K : Nat} {ch l0 : Nat → Nat} {σ : AW} {T : St}
theorem m_choose {lim : Nat} {Q : Int32 → St → Prop} (h : CM K ch l0 σ T) (hK : K ≤ 6) (hm : σ 5 0 < 6) (hQ : ∀ T', CM K ch l0 (aCh σ lim) T' → (∀ v i, (v < 7 ∨ 10 < v) → T'.1 v i = T.1 v i) → T'.2 = T.2 → Q (nI (ch (σ 5 0))) T') : pX7_choose (nI lim) T Q := by
  obtain ⟨c10, c9, c7, c0, c8⟩ := h
  have hmx : max K (σ 5 0) ≤ 6 := by omega
  have hkey : ∀ T1 : St, T1.1 10 0 = nI (σ 5 0) → T1.1 7 (σ 5 0) = nI (ch (σ 5 0)) → CM K ch l0 (aCh σ lim) (wr T1 10 0 (nI (σ 5 0) + 1)) → (∀ v i, (v < 7 ∨ 10 < v) → T1.1 v i = T.1 v i) → T1.2 = T.2 → bX7_choose_41 Q T1 := by
    intro T1 e1 e2 hC hf ht S1 eS
    rw [e1] at eS
    have e3 : S1.1 10 0 - 1 = nI (σ 5 0) := by rw [eS, wr_1, if_pos rfl, if_pos rfl, nI_1, nI_pred]
    rw [e3, nu_cl (by omega)]
    refine ⟨nu_in (by omega) (by decide), ?_⟩
    have e4 : S1.1 7 (σ 5 0) = nI (ch (σ 5 0)) := by rw [eS, wr_1, if_neg (by decide)]; exact e2
    rw [e4]
    refine hQ S1 (by rw [eS]; exact hC) (fun v i hv => ?_) (by rw [eS]; exact ht)
    rw [eS, wr_1, if_neg (by omega)]; exact hf v i hv
  refine ⟨fun z => ?_, fun z => ?_⟩
  · rw [c10, c9] at z
    have hlt : σ 5 0 < K := by
      rcases Nat.lt_or_ge (σ 5 0) K with q | q
      · exact q
      · exact absurd (by rw [Nat.max_eq_right q]) z
    refine hkey T c10 (c7 _ hlt).1 ?_ (fun _ _ _ => rfl) rfl
    rw [nI_1]
    refine ⟨by simp [wr_1, aCh, su_g], ?_, fun j hj => ?_, c0, fun j hj hj2 => ?_⟩
    · rw [wr_1, if_neg (by decide), c9]
      have : aCh σ lim 5 0 = σ 5 0 + 1 := by simp [aCh, su_g]
      rw [this]; congr 1; omega
    · rw [wr_1, if_neg (by decide), wr_1, if_neg (by decide)]; exact c7 j hj
    · have : aCh σ lim 5 0 = σ 5 0 + 1 := by simp [aCh, su_g]
      omega
  · rw [c10, c9, nI_eq (by omega) (by omega)] at z
    have hge : K ≤ σ 5 0 := by omega
    have hmm : max K (σ 5 0) = σ 5 0 := by omega
    rw [hmm] at c9
    rw [c9]
    refine ⟨nu_in (by omega) (by decide), fun S3 e3 => ?_⟩
    rw [nu_cl (by omega)] at e3
    have d9 : S3.1 9 0 = nI (σ 5 0) := by rw [e3, wr_1, if_neg (by decide)]; exact c9
    rw [d9]
    refine ⟨nu_in (by omega) (by decide), fun S5 e5 S7 e7 => ?_⟩
    rw [nu_cl (by omega)] at e5
    have d9' : S5.1 9 0 = nI (σ 5 0) := by rw [e5, wr_1, if_neg (by decide)]; exact d9
    rw [d9'] at e7
    subst e7 e5 e3
    refine hkey _ (by simpa [wr_1] using c10) (by simp [wr_1, c0 _ hge, nI_0]) ?_ (fun v i hv => ?_) rfl
    · have a5 : aCh σ lim 5 0 = σ 5 0 + 1 := by simp [aCh, su_g]
      rw [nI_1]
      refine ⟨by simp [wr_1, a5], ?_, fun j hj => ?_, c0, fun j hj hj2 => ?_⟩
      · rw [a5]; simp only [wr_1]; simp; congr 1; omega
      · have : ¬ j = σ 5 0 := by omega
        simpa [wr_1, this] using c7 j hj
      · rw [a5] at hj2
        by_cases e : j = σ 5 0
        · subst e; simp [wr_1, aCh, su_g]
        · simpa [wr_1, e, aCh, su_g] using c8 j hj (by omega)
    · simp only [wr_1]
      rw [if_neg (by omega), if_neg (by omega), if_neg (by omega)]
end MCH
section MAC
variable {mo K : Nat} {ch l0 : Nat → Nat} {T0 : St} {σ : AW} {T : St} {h : Nat} {u : Nat → Nat}
/-- an access is made -/
theorem RM_acc {σ1 : AW} {gt : Nat} {T' : St} (hR : RM0 K ch l0 T0 σ T) (hu1 : u 1 < 4) (hh : h < 4) (h1 : ∀ v i, v ≠ 5 → v ≠ 56 → σ1 v i = σ v i) (hg : gt < 4) (hC : CM K ch l0 σ1 T') (h2 : T'.2 = T.2)
    (hf : ∀ v i, (v < 7 ∨ 10 < v) → T'.1 v i = (if v = 13 ∧ i = 0 then nI (σ 7 0 + 1) else if v = 14 ∧ i = σ 7 0 then nI h else if v = 15 ∧ i = σ 7 0 then nI (u 0) else if v = 16 ∧ i = σ 7 0 then nI (aLoc σ h (u (atK (u 0))) (u (atK (u 0) + 1))) else if v = 19 ∧ i = σ 7 0 then nI (u (atK (u 0) + 2)) else if v = 20 ∧ i = σ 7 0 then nI (if u (atK (u 0) + 1) = 0 then 0 else σ 25 (4 * h + (u (atK (u 0) + 1) - 1))) else if v = 22 ∧ i = σ 7 0 then nI (σ 12 0) else if v = 21 ∧ i = σ 7 0 then nI (if wtK (u 0) then σ 25 (4 * h + u (atK (u 0) - 1)) else 0) else if v = 17 ∧ i = σ 7 0 then nI (if rdK (u 0) then gt else 0) else if v = 18 ∧ i = σ 7 0 then nI (if wtK (u 0) then (σ 24 (4 * h + u (atK (u 0) - 1)) + (if u 0 = 3 then (if rdK (u 0) then gt else 0) else 0)) % 4 else 0) else if v = 11 ∧ (u 0 ≠ 1 ∧ i = 4 * h + u 1) then nI (if rdK (u 0) then gt else 0) else if v = 12 ∧ (u 0 ≠ 1 ∧ i = 4 * h + u 1) then nI (2 ^ σ 7 0) else if v = 34 then T'.1 v i else T.1 v i))
    (h23 : u 0 = 5 → T.1 23 (σ 7 0) = nI (σ 11 0) - 1) : RM0 K ch l0 T0 (aAcc mo u h σ1 gt) T' := by
  obtain ⟨r1, r2, r3, ⟨r13, r33, r24⟩, r5, r6, r7⟩ := hR
  have e7 : σ1 7 0 = σ 7 0 := h1 7 0 (by decide) (by decide)
  have lo : ∀ v i, (v < 30 ∨ 50 < v) → v ≠ 7 → v ≠ 13 → v ≠ 11 → v ≠ 24 → v ≠ 25 → aAcc mo u h σ1 gt v i = σ1 v i := fun v i a b c d e f => aAcc_lo a b c d e f
  have al : ∀ x y, aLoc σ1 h x y = aLoc σ h x y := by intro x y; unfold aLoc; rw [h1 24 _ (by decide) (by decide)]
  refine ⟨fun v i hv => ?_, by rw [h2]; exact r2, ?_, ⟨?_, ?_, ?_⟩, fun k hk => ?_, fun i hi => ?_, fun f hf' => ?_⟩
  · rw [← r1 v i hv]
    have : v ≤ 6 ∨ 29 ≤ v ∧ v ≤ 32 := by simpa [uM] using hv
    rw [hf v i (by omega)]
    repeat rw [if_neg (by omega)]
  · obtain ⟨c10, c9, c7, c0, c8⟩ := hC
    have a5 : aAcc mo u h σ1 gt 5 0 = σ1 5 0 := lo 5 0 (by decide) (by decide) (by decide) (by decide) (by decide) (by decide)
    refine ⟨by rw [a5]; exact c10, by rw [a5]; exact c9, c7, c0, fun j hj hj2 => ?_⟩
    rw [a5] at hj2
    rw [lo 56 j (by decide) (by decide) (by decide) (by decide) (by decide) (by decide)]
    exact c8 j hj hj2
  · rw [hf 13 0 (by decide), if_pos ⟨rfl, rfl⟩, aAcc_7, e7]
  · rw [hf 33 0 (by decide), lo 12 0 (by decide) (by decide) (by decide) (by decide) (by decide) (by decide), h1 12 0 (by decide) (by decide)]
    simpa using r33
  · rw [hf 24 0 (by decide), lo 51 0 (by decide) (by decide) (by decide) (by decide) (by decide) (by decide), h1 51 0 (by decide) (by decide)]
    simpa using r24
  · rw [(aAcc_reg k).1, (aAcc_reg k).2, e7, h1 24 k (by decide) (by decide), h1 25 k (by decide) (by decide), hf 11 k (by decide), hf 12 k (by decide)]
    by_cases z : u 0 ≠ 1 ∧ k = 4 * h + u 1
    · have : (if rdK (u 0) = true then gt else 0) % 4 = (if rdK (u 0) = true then gt else 0) := Nat.mod_eq_of_lt (by split <;> omega)
      rw [this]; simp [z]
    · simp [z]; exact r5 k hk
  · rw [aAcc_7, e7] at hi
    by_cases z : i = σ 7 0
    · subst z
      obtain ⟨n30, n31, n32, n33, n36, n37, n38, n39, n40, n50⟩ := @aAcc_new mo u h σ1 gt
      rw [e7] at n30 n31 n32 n33 n36 n37 n38 n39 n40 n50
      rw [al] at n32
      rw [h1 24 _ (by decide) (by decide)] at n37
      rw [h1 25 _ (by decide) (by decide)] at n38 n39
      rw [h1 11 _ (by decide) (by decide)] at n40
      rw [h1 12 _ (by decide) (by decide)] at n50
      unfold MF
      rw [n30, n31, n32, n33, n36, n37, n38, n39, n40, n50]
      have f := fun v hv => hf v (σ 7 0) hv
      refine ⟨?_, ?_, ?_, ?_, ?_, ?_, ?_, ?_, ?_, fun q => ?_⟩
      all_goals (first | (rw [f 14 (by decide)]; simp; done) | (rw [f 15 (by decide)]; simp; done) | (rw [f 16 (by decide)]; simp; done) | (rw [f 17 (by decide)]; simp; done) | (rw [f 18 (by decide)]; simp; done) | (rw [f 19 (by decide)]; simp; done) | (rw [f 20 (by decide)]; simp; done) | (rw [f 21 (by decide)]; simp; done) | (rw [f 22 (by decide)]; simp; done) | skip)
      rw [f 23 (by decide), if_pos q, ← h23 q]; simp
    · have hi2 : i < σ 7 0 := by omega
      have old : ∀ v, 30 ≤ v → v ≠ 56 → aAcc mo u h σ1 gt v i = σ v i := fun v hv h56 => by rw [aAcc_old hv (by rw [e7]; exact hi2), h1 v i (by omega) h56]
      have := r6 i hi2
      unfold MF at this ⊢
      rw [old 30 (by decide) (by decide), old 31 (by decide) (by decide), old 32 (by decide) (by decide), old 33 (by decide) (by decide), old 36 (by decide) (by decide), old 37 (by decide) (by decide), old 38 (by decide) (by decide), old 39 (by decide) (by decide), old 40 (by decide) (by decide), old 50 (by decide) (by decide)]
      have fr : ∀ v, 14 ≤ v → v ≤ 23 → T'.1 v i = T.1 v i := by
        intro v q1 q2
        rw [hf v i (by omega)]
        repeat rw [if_neg (by omega)]
      rw [fr 14 (by decide) (by decide), fr 15 (by decide) (by decide), fr 16 (by decide) (by decide), fr 17 (by decide) (by decide), fr 18 (by decide) (by decide), fr 19 (by decide) (by decide), fr 20 (by decide) (by decide), fr 21 (by decide) (by decide), fr 22 (by decide) (by decide), fr 23 (by decide) (by decide)]
      exact this
  · rw [lo 51 0 (by decide) (by decide) (by decide) (by decide) (by decide) (by decide), h1 51 0 (by decide) (by decide)] at hf'
    rw [lo 52 f (by decide) (by decide) (by decide) (by decide) (by decide) (by decide), lo 53 f (by decide) (by decide) (by decide) (by decide) (by decide) (by decide), lo 54 f (by decide) (by decide) (by decide) (by decide) (by decide) (by decide), lo 55 f (by decide) (by decide) (by decide) (by decide) (by decide) (by decide)]
    rw [h1 52 f (by decide) (by decide), h1 53 f (by decide) (by decide), h1 54 f (by decide) (by decide), h1 55 f (by decide) (by decide)]
    have fr : ∀ v, 25 ≤ v → v ≤ 28 → T'.1 v f = T.1 v f := by
      intro v q1 q2
      rw [hf v f (by omega)]
      repeat rw [if_neg (by omega)]
    rw [fr 25 (by decide) (by decide), fr 26 (by decide) (by decide), fr 27 (by decide) (by decide), fr 28 (by decide) (by decide)]
    exact r7 f hf'
end MAC
