/-! the class's walk keeps to AW: the relation of its cells to AW, and what single writes do to it -/
def um (v : Nat) : Bool := !(v == 5 || (decide (7 ≤ v) && decide (v ≤ 15)) || (decide (22 ≤ v) && decide (v ≤ 25)) || (decide (30 ≤ v) && decide (v ≤ 43)))
def AF (σ : AW) (S : St) (i : Nat) : Prop :=
  S.1 30 i = nI (σ 30 i) ∧ S.1 31 i = nI (σ 31 i) ∧ S.1 32 i = nI (σ 32 i) ∧ S.1 33 i = nI (σ 33 i) ∧ S.1 34 i = nI (b2n (rdK (σ 31 i))) ∧ S.1 35 i = nI (b2n (wtK (σ 31 i))) ∧ S.1 36 i = nI (σ 36 i) ∧ S.1 37 i = nI (σ 37 i) ∧ S.1 38 i = nI (σ 38 i) ∧ S.1 39 i = nI (σ 39 i) ∧ S.1 40 i = nI (σ 40 i) - 1 ∧ S.1 41 i = nI (σ 41 i) - 1 ∧ S.1 42 i = nI (σ 42 i) ∧ S.1 43 i = nI (σ 43 i)
def RC (mo K : Nat) (ch l0 : Nat → Nat) (S0 : St) (σ : AW) (S : St) : Prop :=
  (∀ v i, um v = true → S.1 v i = S0.1 v i) ∧ S.2 = S0.2 ∧ S.1 8 0 = nI mo ∧
  (S.1 5 0 = nI (σ 5 0) ∧ S.1 7 0 = nI (σ 7 0) ∧ S.1 9 0 = nI (σ 9 0) ∧ S.1 10 0 = nI (σ 10 0) ∧ S.1 11 0 = nI (σ 11 0) - 1 ∧ S.1 12 0 = nI (σ 12 0) ∧ S.1 13 0 = nI (σ 13 0) ∧ S.1 14 0 = nI (σ 14 0) ∧ S.1 15 0 = nI (σ 15 0)) ∧
  (∀ k, k < 16 → S.1 24 k = nI (σ 24 k) ∧ S.1 25 k = nI (σ 25 k)) ∧
  (∀ i, i < σ 7 0 → AF σ S i) ∧
  S.1 6 0 = nI K ∧ (∀ j, j < K → S.1 22 j = nI (ch j) ∧ S.1 23 j = nI (l0 j)) ∧ (∀ j, K ≤ j → ch j = 0) ∧ (∀ j, K ≤ j → j < σ 5 0 → S.1 22 j = 0 ∧ S.1 23 j = nI (σ 56 j))
def AI (σ : AW) (i : Nat) : Prop := σ 30 i < 4 ∧ σ 31 i < 6 ∧ σ 32 i < 3 ∧ σ 33 i < 4 ∧ σ 36 i < 4 ∧ σ 37 i < 4 ∧ σ 38 i < 64 ∧ σ 39 i < 64 ∧ σ 40 i ≤ 6 ∧ σ 41 i ≤ 6 ∧ σ 42 i < 64 ∧ σ 43 i < 64 ∧ σ 50 i < 64
def IN (σ : AW) (h : Nat) : Prop :=
  h < 4 ∧ σ 9 0 = h ∧ σ 10 0 ≤ σ 7 0 ∧ σ 7 0 ≤ 6 ∧ (∀ k, k < 16 → σ 24 k < 4 ∧ σ 25 k < 64) ∧ σ 11 0 ≤ σ 7 0 ∧ (σ 12 0 < 64 ∧ σ 13 0 < 64 ∧ σ 14 0 < 64 ∧ σ 15 0 < 64) ∧ (∀ i, i < σ 7 0 → AI σ i) ∧ σ 5 0 ≤ 6
section RCS
variable {mo K : Nat} {ch l0 : Nat → Nat} {S0 : St} {σ : AW} {S : St}
theorem um_ne {v w : Nat} {x : Int32} {j i : Nat} (hu : um v = true) (hw : um w = false) : (wr S w j x).1 v i = S.1 v i := by
  rw [wr_1, if_neg]
  intro e
  subst e
  rw [hw] at hu
  cases hu
theorem RC_sc {v x : Nat} (hv : v = 9 ∨ v = 10 ∨ v = 12 ∨ v = 13 ∨ v = 14 ∨ v = 15) (h : RC mo K ch l0 S0 σ S) : RC mo K ch l0 S0 (su σ v 0 x) (wr S v 0 (nI x)) := by
  obtain ⟨h1, h2, h3, ⟨c5, c7, c9, c10, c11, c12, c13, c14, c15⟩, h5, h6, h7, h8, h9, h10⟩ := h
  have hm : um v = false := by rcases hv with rfl | rfl | rfl | rfl | rfl | rfl <;> rfl
  refine ⟨fun w i hu => by rw [um_ne hu hm]; exact h1 w i hu, h2, ?_, ?_, ?_, ?_, ?_, ?_, h9, ?_⟩
  · rcases hv with rfl | rfl | rfl | rfl | rfl | rfl <;> simpa [wr_1] using h3
  · rcases hv with rfl | rfl | rfl | rfl | rfl | rfl <;> simp [wr_1, su_g, *]
  · rcases hv with rfl | rfl | rfl | rfl | rfl | rfl <;> simpa [wr_1, su_g] using h5
  · rcases hv with rfl | rfl | rfl | rfl | rfl | rfl <;> simpa [wr_1, su_g, AF] using h6
  · rcases hv with rfl | rfl | rfl | rfl | rfl | rfl <;> simpa [wr_1] using h7
  · rcases hv with rfl | rfl | rfl | rfl | rfl | rfl <;> simpa [wr_1] using h8
  · rcases hv with rfl | rfl | rfl | rfl | rfl | rfl <;> simpa [wr_1, su_g] using h10
theorem RC_11 {x : Nat} (h : RC mo K ch l0 S0 σ S) : RC mo K ch l0 S0 (su σ 11 0 x) (wr S 11 0 (nI x - 1)) := by
  obtain ⟨h1, h2, h3, ⟨c5, c7, c9, c10, c11, c12, c13, c14, c15⟩, h5, h6, h7, h8, h9, h10⟩ := h
  refine ⟨fun w i hu => by rw [um_ne hu rfl]; exact h1 w i hu, h2, by simpa [wr_1] using h3, by simp [wr_1, su_g, *], by simpa [wr_1, su_g] using h5, by simpa [wr_1, su_g, AF] using h6, by simpa [wr_1] using h7, by simpa [wr_1] using h8, h9, by simpa [wr_1, su_g] using h10⟩
theorem RC_reg {k v c : Nat} (h : RC mo K ch l0 S0 σ S) : RC mo K ch l0 S0 (su (su σ 24 k v) 25 k c) (wr (wr S 24 k (nI v)) 25 k (nI c)) := by
  obtain ⟨h1, h2, h3, ⟨c5, c7, c9, c10, c11, c12, c13, c14, c15⟩, h5, h6, h7, h8, h9, h10⟩ := h
  refine ⟨fun w i hu => by rw [um_ne hu rfl, um_ne hu rfl]; exact h1 w i hu, h2, by simpa [wr_1] using h3, by simp [wr_1, su_g, *], fun j hj => ?_, by simpa [wr_1, su_g, AF] using h6, by simpa [wr_1] using h7, by simpa [wr_1] using h8, h9, by simpa [wr_1, su_g] using h10⟩
  by_cases e : j = k
  · subst e; simp [wr_1, su_g]
  · simpa [wr_1, su_g, e] using h5 j hj
/-- a field of the access that is being made -/
theorem RC_new {v : Nat} {x : Int32} (hv : 30 ≤ v ∧ v ≤ 43) (h : RC mo K ch l0 S0 σ S) : RC mo K ch l0 S0 σ (wr S v (σ 7 0) x) := by
  obtain ⟨h1, h2, h3, ⟨c5, c7, c9, c10, c11, c12, c13, c14, c15⟩, h5, h6, h7, h8, h9, h10⟩ := h
  have g : ∀ w i, w < 30 → (wr S v (σ 7 0) x).1 w i = S.1 w i := fun w i hw => by rw [wr_1, if_neg (by omega)]
  have g2 : ∀ w i, i < σ 7 0 → (wr S v (σ 7 0) x).1 w i = S.1 w i := fun w i hi => by
    rw [wr_1]
    split
    · rw [if_neg (by omega)]
    · rfl
  refine ⟨fun w i hu => ?_, h2, by rw [g _ _ (by decide)]; exact h3, by simp only [g _ _ (show (5 : Nat) < 30 by decide), g _ _ (show (7 : Nat) < 30 by decide), g _ _ (show (9 : Nat) < 30 by decide), g _ _ (show (10 : Nat) < 30 by decide), g _ _ (show (11 : Nat) < 30 by decide), g _ _ (show (12 : Nat) < 30 by decide), g _ _ (show (13 : Nat) < 30 by decide), g _ _ (show (14 : Nat) < 30 by decide), g _ _ (show (15 : Nat) < 30 by decide)]; exact ⟨c5, c7, c9, c10, c11, c12, c13, c14, c15⟩, fun j hj => by rw [g _ _ (by decide), g _ _ (by decide)]; exact h5 j hj, fun i hi => ?_, by rw [g _ _ (by decide)]; exact h7, fun j hj => by rw [g _ _ (by decide), g _ _ (by decide)]; exact h8 j hj, h9, fun j hj hj2 => by rw [g _ _ (by decide), g _ _ (by decide)]; exact h10 j hj hj2⟩
  · rw [um_ne hu]
    · exact h1 w i hu
    · simp [um]; omega
  · unfold AF
    simp only [g2 _ i hi]
    exact h6 i hi
/-- the access is made -/
theorem RC_bump (h : RC mo K ch l0 S0 σ S) (ha : AF σ S (σ 7 0)) : RC mo K ch l0 S0 (su σ 7 0 (σ 7 0 + 1)) (wr S 7 0 (nI (σ 7 0 + 1))) := by
  obtain ⟨h1, h2, h3, ⟨c5, c7, c9, c10, c11, c12, c13, c14, c15⟩, h5, h6, h7, h8, h9, h10⟩ := h
  refine ⟨fun w i hu => by rw [um_ne hu rfl]; exact h1 w i hu, h2, by simpa [wr_1] using h3, by simp [wr_1, su_g, *], by simpa [wr_1, su_g] using h5, fun i hi => ?_, by simpa [wr_1] using h7, by simpa [wr_1] using h8, h9, by simpa [wr_1, su_g] using h10⟩
  have hi2 : i < σ 7 0 + 1 := by simpa [su_g] using hi
  have hA : AF σ S i := by
    rcases Nat.lt_or_ge i (σ 7 0) with q | q
    · exact h6 i q
    · have : i = σ 7 0 := by omega
      rw [this]; exact ha
  simpa [wr_1, su_g, AF] using hA
/-- other entries of AW that the class does not hold -/
theorem RC_gh {v i x : Nat} (hv : v = 50 ∨ v = 51 ∨ v = 52 ∨ v = 53 ∨ v = 54 ∨ v = 55) (h : RC mo K ch l0 S0 σ S) : RC mo K ch l0 S0 (su σ v i x) S := by
  obtain ⟨h1, h2, h3, h4, h5, h6, h7, h8, h9, h10⟩ := h
  refine ⟨h1, h2, h3, ?_, ?_, ?_, h7, h8, h9, ?_⟩
  · rcases hv with rfl | rfl | rfl | rfl | rfl | rfl <;> simpa [su_g] using h4
  · rcases hv with rfl | rfl | rfl | rfl | rfl | rfl <;> simpa [su_g] using h5
  · rcases hv with rfl | rfl | rfl | rfl | rfl | rfl <;> simpa [su_g, AF] using h6
  · rcases hv with rfl | rfl | rfl | rfl | rfl | rfl <;> simpa [su_g] using h10
theorem RC_fld {v x : Nat} (hv : 30 ≤ v ∧ v ≤ 43) (h : RC mo K ch l0 S0 σ S) : RC mo K ch l0 S0 (su σ v (σ 7 0) x) S := by
  obtain ⟨h1, h2, h3, h4, h5, h6, h7, h8, h9, h10⟩ := h
  have g : ∀ w i, w < 30 → su σ v (σ 7 0) x w i = σ w i := fun w i hw => by rw [su_g, if_neg (by omega)]
  have g3 : ∀ w i, 43 < w → su σ v (σ 7 0) x w i = σ w i := fun w i hw => by rw [su_g, if_neg (by omega)]
  have g2 : ∀ w i, i < σ 7 0 → su σ v (σ 7 0) x w i = σ w i := fun w i hi => by rw [su_g, if_neg (by omega)]
  refine ⟨h1, h2, h3, ?_, ?_, ?_, h7, h8, h9, ?_⟩
  · simp only [g _ _ (show (5 : Nat) < 30 by decide), g _ _ (show (7 : Nat) < 30 by decide), g _ _ (show (9 : Nat) < 30 by decide), g _ _ (show (10 : Nat) < 30 by decide), g _ _ (show (11 : Nat) < 30 by decide), g _ _ (show (12 : Nat) < 30 by decide), g _ _ (show (13 : Nat) < 30 by decide), g _ _ (show (14 : Nat) < 30 by decide), g _ _ (show (15 : Nat) < 30 by decide)]
    exact h4
  · intro k hk; rw [g _ _ (by decide), g _ _ (by decide)]; exact h5 k hk
  · intro i hi
    rw [g _ _ (by decide)] at hi
    unfold AF
    simp only [g2 _ i hi]
    exact h6 i hi
  · intro j hj hj2
    rw [g _ _ (by decide)] at hj2
    rw [g3 _ _ (by decide)]
    exact h10 j hj hj2
/-- choose: the next choice, below a limit -/
theorem c_choose {lim : Nat} {Q : Int32 → St → Prop} (h : RC mo K ch l0 S0 σ S) (hK : K ≤ 6) (hm : σ 5 0 < 6) (hQ : ∀ S', RC mo K ch l0 S0 (aCh σ lim) S' → (∀ v i, 30 ≤ v → S'.1 v i = S.1 v i) → Q (nI (ch (σ 5 0))) S') : pX1_choose (nI lim) S Q := by
  obtain ⟨h1, h2, h3, ⟨c5, c7, c9, c10, c11, c12, c13, c14, c15⟩, h5, h6, h7, h8, h9, h10⟩ := h
  have hcl : (nI (σ 5 0)).toNatClampNeg = σ 5 0 := nu_cl (by omega)
  have hin : vp_in (nI (σ 5 0)) 6 := nu_in hm (by decide)
  have hkey : ∀ S1 : St, (S1.1 5 0 = nI (σ 5 0)) → S1.1 22 (σ 5 0) = nI (ch (σ 5 0)) → RC mo K ch l0 S0 (aCh σ lim) (wr S1 5 0 (nI (σ 5 0) + 1)) → (∀ v i, 30 ≤ v → S1.1 v i = S.1 v i) → bX1_choose_42 Q S1 := by
    intro S1 e1 e2 hR hfr y ey S2 eS2
    rw [e1] at ey
    subst ey
    refine ⟨hin, ?_⟩
    rw [hcl, eS2]
    have e3 : (wr S1 5 0 (nI (σ 5 0) + 1)).1 22 (σ 5 0) = nI (ch (σ 5 0)) := by simpa [wr_1] using e2
    rw [e3]
    refine hQ _ hR (fun v i hv => ?_)
    rw [wr_1, if_neg (by omega)]
    exact hfr v i hv
  refine ⟨fun _ => ⟨fun hlt => ?_, fun hnl => ?_⟩, fun hn => absurd ?_ hn⟩
  · rw [c5, h7] at hlt
    have hlt2 : σ 5 0 < K := (nI_ltI (by omega) (by omega)).mp hlt
    refine hkey S c5 (h8 _ hlt2).1 ?_ (fun _ _ _ => rfl)
    rw [nI_1]
    refine ⟨fun w i hu => by rw [um_ne hu rfl]; exact h1 w i hu, h2, by simpa [wr_1] using h3, by simp [wr_1, su_g, aCh, *], by simpa [wr_1, su_g, aCh] using h5, by simpa [wr_1, su_g, AF, aCh] using h6, by simpa [wr_1] using h7, by simpa [wr_1] using h8, h9, fun j hj hj2 => ?_⟩
    have hj3 : j < σ 5 0 + 1 := by simpa [su_g, aCh] using hj2
    omega
  · rw [c5, h7] at hnl
    have hge : K ≤ σ 5 0 := by
      rcases Nat.lt_or_ge (σ 5 0) K with q | q
      · exact absurd ((nI_ltI (by omega) (by omega)).mpr q) hnl
      · exact q
    rw [c5]
    refine ⟨hin, fun S4 e4 => ?_⟩
    have e5 : S4.1 5 0 = nI (σ 5 0) := by rw [e4]; simpa [wr_1] using c5
    rw [e5]
    refine ⟨hin, fun S6 e6 => ?_⟩
    rw [hcl] at e4 e6
    have d5 : S6.1 5 0 = nI (σ 5 0) := by rw [e6]; simpa [wr_1] using e5
    refine hkey S6 d5 ?_ ?_ (fun v i hv => ?_)
    · rw [e6, e4, h9 _ hge]; simp [wr_1, nI_0]
    · rw [e6, e4, nI_1]
      refine ⟨fun w i hu => by rw [um_ne hu rfl, um_ne hu rfl, um_ne hu rfl]; exact h1 w i hu, h2, by simpa [wr_1] using h3, by simp [wr_1, su_g, aCh, *], by simpa [wr_1, su_g, aCh] using h5, by simpa [wr_1, su_g, AF, aCh] using h6, by simpa [wr_1] using h7, fun j hj => ?_, h9, fun j hj hj2 => ?_⟩
      · have : ¬ j = σ 5 0 := by omega
        simpa [wr_1, this] using h8 j hj
      · have hj3 : j < σ 5 0 + 1 := by simpa [su_g, aCh] using hj2
        by_cases e : j = σ 5 0
        · subst e; simp [wr_1, su_g, aCh]
        · simpa [wr_1, su_g, aCh, e] using h10 j hj (by omega)
    · rw [e6, wr_1, if_neg (by omega), e4, wr_1, if_neg (by omega)]
  · rw [c5]; exact (nI_ltI (a := σ 5 0) (b := 6) (by omega) (by decide)).mpr hm
end RCS
