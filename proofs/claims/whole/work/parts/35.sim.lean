/-! the class's walk keeps to AW: makeAccess, fails, step -/
theorem c_isReader {k : Nat} {Q : Int32 → Prop} (hk : k < 11) (hQ : Q (zI (rdK k))) : pX6_isReader (nI k) Q := by
  have e : ∀ m, m < 11 → (nI k = nI m ↔ k = m) := fun m hm => nI_eq (by omega) (by omega)
  have y : rdK k = true → bX6_isReader_19 Q := fun q => ⟨Or.inr rfl, by rw [q] at hQ; exact hQ⟩
  refine ⟨fun z => y ?_, fun z0 => ⟨fun z => y ?_, fun z2 => ⟨fun z => y ?_, fun z3 => ⟨fun z4 => ?_, fun z => y ?_⟩⟩⟩⟩
  · have : k = 0 := (e 0 (by decide)).mp z
    subst this; rfl
  · have : k = 2 := (e 2 (by decide)).mp z
    subst this; rfl
  · have : k = 3 := (e 3 (by decide)).mp z
    subst this; rfl
  · have n0 : k ≠ 0 := fun q => z0 ((e 0 (by decide)).mpr q)
    have n2 : k ≠ 2 := fun q => z2 ((e 2 (by decide)).mpr q)
    have n3 : k ≠ 3 := fun q => z3 ((e 3 (by decide)).mpr q)
    have n4 : k ≠ 4 := fun q => z4 ((e 4 (by decide)).mpr q)
    have : rdK k = false := by simp [rdK, n0, n2, n3, n4]
    rw [this] at hQ
    exact ⟨Or.inl rfl, hQ⟩
  · have : k = 4 := (e 4 (by decide)).mp z
    subst this; rfl
theorem c_isWriter {k : Nat} {Q : Int32 → Prop} (hk : k < 11) (hQ : Q (zI (wtK k))) : pX6_isWriter (nI k) Q := by
  have e : ∀ m, m < 11 → (nI k = nI m ↔ k = m) := fun m hm => nI_eq (by omega) (by omega)
  have y : wtK k = true → bX6_isWriter_20 Q := fun q => ⟨Or.inr rfl, by rw [q] at hQ; exact hQ⟩
  refine ⟨fun z => y ?_, fun z0 => ⟨fun z => y ?_, fun z2 => ⟨fun z => y ?_, fun z3 => ⟨fun z4 => ?_, fun z => y ?_⟩⟩⟩⟩
  · have : k = 1 := (e 1 (by decide)).mp z
    subst this; rfl
  · have : k = 2 := (e 2 (by decide)).mp z
    subst this; rfl
  · have : k = 3 := (e 3 (by decide)).mp z
    subst this; rfl
  · have n0 : k ≠ 1 := fun q => z0 ((e 1 (by decide)).mpr q)
    have n2 : k ≠ 2 := fun q => z2 ((e 2 (by decide)).mpr q)
    have n3 : k ≠ 3 := fun q => z3 ((e 3 (by decide)).mpr q)
    have n4 : k ≠ 5 := fun q => z4 ((e 5 (by decide)).mpr q)
    have : wtK k = false := by simp [wtK, n0, n2, n3, n4]
    rw [this] at hQ
    exact ⟨Or.inl rfl, hQ⟩
  · have : k = 5 := (e 5 (by decide)).mp z
    subst this; rfl
/-- what an access's row says, by its kind -/
theorem GR_acc {u : Nat → Nat} (hg : GR u) (hk : u 0 < 6) : u 1 < 4 ∧ u (atK (u 0)) < 3 ∧ u (atK (u 0) + 1) < 5 ∧ u (atK (u 0) + 2) < 4 ∧ (wtK (u 0) = true → u (atK (u 0) - 1) < 4) ∧ yK (u 0) = atK (u 0) + 1 ∧ (atK (u 0) = 2 ∨ atK (u 0) = 3) := by
  rcases hg with ⟨hk, h1, h2, h3, h4⟩ | ⟨hk, h1, h2, h3, h4, h5⟩ | ⟨h0, h⟩ | ⟨h0, h⟩ | ⟨h0, h⟩ | ⟨h0, h⟩
  · rcases hk with e | e | e <;> rw [e] <;> simp [atK, yK, wtK] <;> omega
  · rcases hk with e | e | e <;> rw [e] <;> simp [atK, yK, wtK] <;> omega
  all_goals omega
theorem IN_ch {σ : AW} {h lim : Nat} (hI : IN σ h) (hm : σ 5 0 < 6) : IN (aCh σ lim) h := by
  obtain ⟨i1, i2, i3, i4, i5, i6, i7, i11, i12⟩ := hI
  refine ⟨i1, by simpa [su_g, aCh] using i2, by simpa [su_g, aCh] using i3, by simpa [su_g, aCh] using i4, by simpa [su_g, aCh] using i5, by simpa [su_g, aCh] using i6, by simpa [su_g, aCh] using i7, by simpa [su_g, aCh, AI] using i11, ?_⟩
  simp [su_g, aCh]; omega
section SIM3
variable {mo K : Nat} {ch l0 : Nat → Nat} {S0 : St} {σ : AW} {S : St} {h : Nat}
set_option maxHeartbeats 4000000 in
theorem c_acc {r : Nat} {u : Nat → Nat} {Q : St → Prop} (hR : RC mo K ch l0 S0 σ S) (hI : IN σ h) (hK : K ≤ 6) (hmo : mo < 3) (hch : ∀ j, ch j < 4) (hu : ∀ j, j < 6 → S0.2.1 r j = dcK (u 0) j (u j)) (hg : GR u) (hk : u 0 < 6) (hn : σ 7 0 < 6) (hm : rdK (u 0) = true → σ 5 0 < 6)
    (hQ : ∀ S', RC mo K ch l0 S0 (aAcc mo u h (if rdK (u 0) then aCh σ 4 else σ) (ch (σ 5 0))) S' → Q S') : pX5_makeAccess r S Q := by
  obtain ⟨g1, gx, gy, gm, gs, ey, hat⟩ := GR_acc hg hk
  have hh := hI.1
  generalize hkk : u 0 = k at *
  generalize haa : atK k = at' at *
  have row : ∀ T : St, T.2 = S0.2 → (T.2.1 r 0 = nI k ∧ T.2.1 r 1 = nI (u 1) ∧ T.2.1 r at' = nI (u at') ∧ T.2.1 r (at' + 1) = nI (u (at' + 1)) - 1 ∧ T.2.1 r (at' + 2) = nI (u (at' + 2)) ∧ T.2.1 r (at' - 1) = nI (u (at' - 1))) := by
    intro T eT
    rw [eT, hu 0 (by decide), hu 1 (by decide), hu at' (by omega), hu (at' + 1) (by omega), hu (at' + 2) (by omega), hu (at' - 1) (by omega)]
    unfold dcK
    rw [if_neg (by omega), if_neg (by omega), if_neg (by omega), if_pos (by omega), if_neg (by omega), if_neg (by omega), hkk]
    exact ⟨rfl, rfl, rfl, rfl, rfl, rfl⟩
  have main : bX5_makeAccess_34 Q r (nI k) (nI at') S := by
    intro y25 e25
    rw [hR.2.2.2.1.2.1] at e25
    rw [e25, nu_cl (by omega)]
    refine ⟨nu_in (by omega) (by decide), fun i26 e26 S28 e28 S29 e29 => ?_⟩
    subst e26
    rw [nu_cl (by omega), nI_1, nu_cl (by omega), show nI at' + (2 : Int32) = nI (at' + 2) from nI_add at' 2, nu_cl (by omega)]
    have r29 : RC mo K ch l0 S0 σ S29 := by rw [e29, e28]; exact RC_new (by decide) (RC_new (by decide) hR)
    obtain ⟨w0, w1, w2, w3, w4, w5⟩ := row S29 r29.2.1
    refine ⟨nu_in (by omega) (by decide), nu_in (by omega) (by decide), ?_⟩
    rw [w2]
    refine c_place r29 hI gx gy w3 (fun S34 e34 => ?_)
    have r34 : RC mo K ch l0 S0 σ S34 := by rw [e34]; exact RC_new (by decide) r29
    refine ⟨nu_in (by omega) (by decide), fun S36 e36 => ?_⟩
    rw [(row S34 r34.2.1).2.2.2.2.1] at e36
    have r36 : RC mo K ch l0 S0 σ S36 := by rw [e36]; exact RC_new (by decide) r34
    refine c_isReader (by omega) ⟨zI_z _, fun S38 e38 => ?_⟩
    have r38 : RC mo K ch l0 S0 σ S38 := by rw [e38]; exact RC_new (by decide) r36
    refine c_isWriter (by omega) ⟨zI_z _, fun S40 e40 => ?_⟩
    have r40 : RC mo K ch l0 S0 σ S40 := by rw [e40]; exact RC_new (by decide) r38
    have lcb : aLoc σ h (u at') (u (at' + 1)) < 3 := by
      unfold aLoc; split
      · exact gx
      · exact Nat.mod_lt _ (by decide)
    -- the cells of the new access so far
    have B30 : S40.1 30 (σ 7 0) = nI h := by
      rw [e40, e38, e36, e34, e29, e28]; simp [wr_1, hR.2.2.2.1.2.2.1, hI.2.1]
    have B31 : S40.1 31 (σ 7 0) = nI k := by rw [e40, e38, e36, e34, e29, e28]; simp [wr_1]
    have B32 : S40.1 32 (σ 7 0) = nI (aLoc σ h (u at') (u (at' + 1))) := by rw [e40, e38, e36, e34, e29, e28]; simp [wr_1]
    have B33 : S40.1 33 (σ 7 0) = nI (u (at' + 2)) := by rw [e40, e38, e36, e34, e29, e28]; simp [wr_1]
    have B34 : S40.1 34 (σ 7 0) = zI (rdK k) := by rw [e40, e38, e36, e34, e29, e28]; simp [wr_1]
    have B35 : S40.1 35 (σ 7 0) = zI (wtK k) := by rw [e40, e38, e36, e34, e29, e28]; simp [wr_1]
    have rest : ∀ bp : Nat, bp = (if u (at' + 1) = 0 then 0 else σ 25 (4 * h + (u (at' + 1) - 1))) → bX5_makeAccess_134 Q r (nI k) (nI at') (nI (σ 7 0)) (σ 7 0) (σ 7 0) (nI bp) S40 := by
      intro bp ebp S20 e20
      have r20 : RC mo K ch l0 S0 σ S20 := by rw [e20]; exact RC_new (by decide) r40
      have bpb : bp < 64 := by
        rw [ebp]; split
        · decide
        · exact (hI.2.2.2.2.1 _ (by omega)).2
      have C35 : S20.1 35 (σ 7 0) = zI (wtK k) := by rw [e20]; simpa [wr_1] using B35
      have rest2 : ∀ bv : Nat, bv = (if wtK k then σ 25 (4 * h + u (at' - 1)) else 0) → bX5_makeAccess_160 Q r (nI k) (nI at') (nI (σ 7 0)) (σ 7 0) (σ 7 0) (nI bv) S20 := by
        intro bv ebv S18 e18
        have r18 : RC mo K ch l0 S0 σ S18 := by rw [e18]; exact RC_new (by decide) r20
        have bvb : bv < 64 := by
          rw [ebv]
          cases q : wtK k
          · simp
          · exact (hI.2.2.2.2.1 _ (by have := gs q; omega)).2
        have rest3 : ∀ rs : Nat, rs = (if k = 5 then σ 11 0 else 0) → bX5_makeAccess_178 Q r (nI k) (nI at') (nI (σ 7 0)) (σ 7 0) (σ 7 0) (nI rs - 1) S18 := by
          intro rs ers S14 e14
          have r14 : RC mo K ch l0 S0 σ S14 := by rw [e14]; exact RC_new (by decide) r18
          have rsb : rs ≤ 6 := by
            rw [ers]; split
            · have := hI.2.2.2.2.2.1; omega
            · decide
          have D30 : S14.1 30 (σ 7 0) = nI h := by rw [e14, e18, e20]; simpa [wr_1] using B30
          have D31 : S14.1 31 (σ 7 0) = nI k := by rw [e14, e18, e20]; simpa [wr_1] using B31
          have D32 : S14.1 32 (σ 7 0) = nI (aLoc σ h (u at') (u (at' + 1))) := by rw [e14, e18, e20]; simpa [wr_1] using B32
          have D33 : S14.1 33 (σ 7 0) = nI (u (at' + 2)) := by rw [e14, e18, e20]; simpa [wr_1] using B33
          have D34 : S14.1 34 (σ 7 0) = zI (rdK k) := by rw [e14, e18, e20]; simpa [wr_1] using B34
          have D35 : S14.1 35 (σ 7 0) = zI (wtK k) := by rw [e14, e18, e20]; simpa [wr_1] using B35
          have D38 : S14.1 38 (σ 7 0) = nI bp := by rw [e14, e18, e20]; simp [wr_1]
          have D39 : S14.1 39 (σ 7 0) = nI bv := by rw [e14, e18, e20]; simp [wr_1]
          have D40 : S14.1 40 (σ 7 0) = nI rs - 1 := by rw [e14]; simp [wr_1]
          -- what was chosen
          have rest4 : ∀ (τ : AW) (T : St) (gt : Nat), τ = (if rdK k then aCh σ 4 else σ) → gt = (if rdK k then ch (σ 5 0) else 0) → RC mo K ch l0 S0 τ T → (∀ v i, 30 ≤ v → T.1 v i = S14.1 v i) → bX5_makeAccess_203 Q r (nI k) (nI at') (nI (σ 7 0)) (σ 7 0) (σ 7 0) (nI gt) T := by
            intro τ T gt eτ egt hT hfr S9 e9
            have t7 : τ 7 0 = σ 7 0 := by rw [eτ]; split <;> simp [aCh, su_g]
            have tv : ∀ v i, v ≠ 5 → v ≠ 56 → τ v i = σ v i := by
              intro v i v5 v56
              rw [eτ]; split
              · simp [aCh, su_g, v5, v56]
              · rfl
            have hIt : IN τ h := by
              rw [eτ]; split
              · rename_i q; exact IN_ch hI (hm q)
              · exact hI
            have gtb : gt < 4 := by rw [egt]; split; exact hch _; decide
            have r9 : RC mo K ch l0 S0 τ S9 := by rw [e9, ← t7]; exact RC_new (by decide) hT
            have E35 : S9.1 35 (σ 7 0) = zI (wtK k) := by rw [e9, wr_1, if_neg (by decide), hfr 35 _ (by decide)]; exact D35
            -- what is put
            have rest5 : ∀ pt : Nat, pt = (if wtK k then (σ 24 (4 * h + u (at' - 1)) + (if k = 3 then gt else 0)) % 4 else 0) → bX5_makeAccess_231 Q r (nI k) (nI (σ 7 0)) (σ 7 0) (σ 7 0) (nI pt) S9 := by
              intro pt ept S3 e3
              have r3 : RC mo K ch l0 S0 τ S3 := by rw [e3, ← t7]; exact RC_new (by decide) r9
              have old : ∀ v, 30 ≤ v → v ≠ 36 → v ≠ 37 → S3.1 v (σ 7 0) = S14.1 v (σ 7 0) := by
                intro v hv v6 v7
                rw [e3, wr_1, if_neg v7, e9, wr_1, if_neg v6, hfr v _ hv]
              have al : aLoc τ h (u at') (u (at' + 1)) = aLoc σ h (u at') (u (at' + 1)) := by unfold aLoc; rw [tv 24 _ (by decide) (by decide)]
              rw [← t7]
              refine c_relate (k := k) (lc := aLoc σ h (u at') (u (at' + 1))) (mk := u (at' + 2)) (bp := bp) (bv := bv) (rs := rs) r3 hIt (by omega) hk lcb gm bpb bvb rsb hmo (by rw [t7, old 32 (by decide) (by decide) (by decide)]; exact D32) (by rw [t7, old 33 (by decide) (by decide) (by decide)]; exact D33) (by rw [t7, old 34 (by decide) (by decide) (by decide)]; exact D34) (by rw [t7, old 35 (by decide) (by decide) (by decide)]; exact D35) (by rw [t7, old 38 (by decide) (by decide) (by decide)]; exact D38) (by rw [t7, old 39 (by decide) (by decide) (by decide)]; exact D39) (by rw [t7, old 40 (by decide) (by decide) (by decide)]; exact D40) (fun S4 r4 f4 q43 q42 q41 => ?_)
              have keep : ∀ v, 30 ≤ v → v ≠ 36 → v ≠ 37 → v ≠ 41 → v ≠ 42 → v ≠ 43 → S4.1 v (τ 7 0) = S14.1 v (σ 7 0) := by
                intro v hv v6 v7 v1 v2 v3
                rw [f4 v _ v1 v2 v3, t7]; exact old v hv v6 v7
              have q36 : S4.1 36 (τ 7 0) = nI gt := by rw [f4 36 _ (by decide) (by decide) (by decide), t7, e3, e9]; simp [wr_1]
              have q37 : S4.1 37 (τ 7 0) = nI pt := by rw [f4 37 _ (by decide) (by decide) (by decide), t7, e3]; simp [wr_1]
              -- the fields come into AW
              have rf := RC_gh (v := 50) (i := τ 7 0) (x := τ 12 0) (by simp) (RC_fld (v := 43) (x := msk (orP mo τ k (aLoc σ h (u at') (u (at' + 1))) (u (at' + 2)) (bp ||| bv) rs) (τ 10 0) (τ 7 0)) (by decide) (RC_fld (v := 42) (x := msk (twP τ k (aLoc σ h (u at') (u (at' + 1)))) (τ 10 0) (τ 7 0)) (by decide) (RC_fld (v := 41) (x := ownF (owP τ (aLoc σ h (u at') (u (at' + 1)))) (τ 10 0) (τ 7 0)) (by decide) (RC_fld (v := 40) (x := rs) (by decide) (RC_fld (v := 39) (x := bv) (by decide) (RC_fld (v := 38) (x := bp) (by decide) (RC_fld (v := 37) (x := pt) (by decide) (RC_fld (v := 36) (x := gt) (by decide) (RC_fld (v := 33) (x := u (at' + 2)) (by decide) (RC_fld (v := 32) (x := aLoc σ h (u at') (u (at' + 1))) (by decide) (RC_fld (v := 31) (x := k) (by decide) (RC_fld (v := 30) (x := h) (by decide) r4))))))))))))
              generalize hτf : su (su (su (su (su (su (su (su (su (su (su (su (su τ 30 (τ 7 0) h) 31 (τ 7 0) k) 32 (τ 7 0) (aLoc σ h (u at') (u (at' + 1)))) 33 (τ 7 0) (u (at' + 2))) 36 (τ 7 0) gt) 37 (τ 7 0) pt) 38 (τ 7 0) bp) 39 (τ 7 0) bv) 40 (τ 7 0) rs) 41 (τ 7 0) (ownF (owP τ (aLoc σ h (u at') (u (at' + 1)))) (τ 10 0) (τ 7 0))) 42 (τ 7 0) (msk (twP τ k (aLoc σ h (u at') (u (at' + 1)))) (τ 10 0) (τ 7 0))) 43 (τ 7 0) (msk (orP mo τ k (aLoc σ h (u at') (u (at' + 1))) (u (at' + 2)) (bp ||| bv) rs) (τ 10 0) (τ 7 0))) 50 (τ 7 0) (τ 12 0) = τf
              have rf : RC mo K ch l0 S0 τf S4 := by rw [← hτf]; exact rf
              have f7 : τf 7 0 = τ 7 0 := by rw [← hτf]; simp [su_g]
              have f13 : τf 13 0 = τ 13 0 := by rw [← hτf]; simp [su_g]
              have fAF : AF τf S4 (τf 7 0) := by
                rw [f7, ← hτf]
                unfold AF
                simp only [keep 30 (by decide) (by decide) (by decide) (by decide) (by decide) (by decide), keep 31 (by decide) (by decide) (by decide) (by decide) (by decide) (by decide), keep 32 (by decide) (by decide) (by decide) (by decide) (by decide) (by decide), keep 33 (by decide) (by decide) (by decide) (by decide) (by decide) (by decide), keep 34 (by decide) (by decide) (by decide) (by decide) (by decide) (by decide), keep 35 (by decide) (by decide) (by decide) (by decide) (by decide) (by decide), keep 38 (by decide) (by decide) (by decide) (by decide) (by decide) (by decide), keep 39 (by decide) (by decide) (by decide) (by decide) (by decide) (by decide), keep 40 (by decide) (by decide) (by decide) (by decide) (by decide) (by decide), q36, q37, q41, q42, q43, D30, D31, D32, D33, D34, D35, D38, D39, D40, zI_n]
                simp [su_g]
              have rb := RC_bump rf fAF
              intro S5 e5 S6 e6
              have e5' : S5 = wr S4 7 0 (nI (τf 7 0 + 1)) := by rw [e5, rf.2.2.2.1.2.1, nI_1]
              have r5 : RC mo K ch l0 S0 (su τf 7 0 (τf 7 0 + 1)) S5 := by rw [e5']; exact rb
              have g38 : S5.1 38 (τ 7 0) = nI bp := by
                rw [e5', wr_1, if_neg (by decide), keep 38 (by decide) (by decide) (by decide) (by decide) (by decide) (by decide)]; exact D38
              have g13 : S5.1 13 0 = nI (τ 13 0) := by rw [r5.2.2.2.1.2.2.2.2.2.2.1]; simp [su_g, f13]
              rw [g13, g38, nu_or] at e6
              have r6 : RC mo K ch l0 S0 (su (su τf 7 0 (τ 7 0 + 1)) 13 0 (τ 13 0 ||| bp)) S6 := by rw [e6, ← f7]; exact RC_sc (by simp) r5
              have g36 : S6.1 36 (τ 7 0) = nI gt := by rw [e6, wr_1, if_neg (by decide), e5', wr_1, if_neg (by decide)]; exact q36
              -- the register
              have last : ∀ (ρ : AW) (T : St), RC mo K ch l0 S0 ρ T → T.1 36 (τ 7 0) = nI gt → IN ρ h → ρ = (if k = 4 then su (su (su τf 7 0 (τ 7 0 + 1)) 13 0 (τ 13 0 ||| bp)) 11 0 (τ 7 0 + 1) else su (su τf 7 0 (τ 7 0 + 1)) 13 0 (τ 13 0 ||| bp)) → bX5_makeAccess_275 Q r (nI k) (nI (τ 7 0)) (τ 7 0) T := by
                intro ρ T rT gT hIρ eρ
                have fin : ∀ S', RC mo K ch l0 S0 (if k = 1 then ρ else aSet ρ h (u 1) gt (2 ^ (τ 7 0))) S' → Q S' := by
                  intro S' rS'
                  refine hQ S' ?_
                  rw [← eτ]
                  have : aAcc mo u h τ (ch (σ 5 0)) = (if k = 1 then ρ else aSet ρ h (u 1) gt (2 ^ (τ 7 0))) := by
                    unfold aAcc
                    dsimp only
                    rw [hkk, haa, al, ← egt]
                    have e24 : τ 24 (4 * h + u (at' - 1)) = σ 24 (4 * h + u (at' - 1)) := tv _ _ (by decide) (by decide)
                    have e25' : τ 25 (4 * h + u (at' - 1)) = σ 25 (4 * h + u (at' - 1)) := tv _ _ (by decide) (by decide)
                    have e25'' : τ 25 (4 * h + (u (at' + 1) - 1)) = σ 25 (4 * h + (u (at' + 1) - 1)) := tv _ _ (by decide) (by decide)
                    have e11 : τ 11 0 = σ 11 0 := tv _ _ (by decide) (by decide)
                    rw [e24, e25', e25'', e11, ← ebp, ← ebv, ← ers, ← ept, hτf, eρ]
                  rw [this]
                  exact rS'
                refine ⟨fun z => ?_, fun z => ?_⟩
                · have hk1 : k = 1 := (nI_eq (b := 1) (by omega) (by decide)).mp z
                  refine fin T ?_
                  rw [if_pos hk1]; exact rT
                · have hk1 : ¬ k = 1 := fun q => z (by rw [q]; rfl)
                  rw [(row T rT.2.1).2.1, gT, nu_sh _ (by omega)]
                  refine c_reg rT hIρ g1 (by omega) (fun S' rS' _ => ?_)
                  refine fin S' ?_
                  rw [if_neg hk1]; exact rS'
              have hI6 : ∀ x, x ≤ τ 7 0 + 1 → IN (su (su (su τf 7 0 (τ 7 0 + 1)) 13 0 (τ 13 0 ||| bp)) 11 0 x) h ∧ (x = τ 11 0 → IN (su (su τf 7 0 (τ 7 0 + 1)) 13 0 (τ 13 0 ||| bp)) h) := by
                intro x hx
                obtain ⟨i1, i2, i3, i4, i5, i6, ⟨i7, i8, i9, i10⟩, i11, i12⟩ := hIt
                have ptb : pt < 4 := by
                  rw [ept]; split
                  · exact Nat.mod_lt _ (by decide)
                  · decide
                have afb : msk (orP mo τ k (aLoc σ h (u at') (u (at' + 1))) (u (at' + 2)) (bp ||| bv) rs) (τ 10 0) (τ 7 0) < 64 := msk_lt64 _ _ i4
                have twb : msk (twP τ k (aLoc σ h (u at') (u (at' + 1)))) (τ 10 0) (τ 7 0) < 64 := msk_lt64 _ _ i4
                have owb : ownF (owP τ (aLoc σ h (u at') (u (at' + 1)))) (τ 10 0) (τ 7 0) ≤ 6 := Nat.le_trans (ownF_le _ _ _) i4
                have n6 : τ 7 0 < 6 := by omega
                have hAI : ∀ i, i < τ 7 0 + 1 → AI τf i := by
                  intro i hi
                  by_cases e : i = τ 7 0
                  · subst e
                    rw [← hτf]; unfold AI; simp [su_g]
                    exact ⟨hh, hk, lcb, gm, gtb, ptb, bpb, bvb, rsb, owb, twb, afb, i7⟩
                  · have := i11 i (by omega)
                    rw [← hτf]; unfold AI at this ⊢; simpa [su_g, e] using this
                have base : ∀ v i, v < 30 → τf v i = τ v i := by
                  intro v i hv; rw [← hτf]; simp only [su_g]
                  repeat rw [if_neg (by omega)]
                have fg : ∀ v i, v < 30 → v ≠ 7 → v ≠ 13 → v ≠ 11 → su (su (su τf 7 0 (τ 7 0 + 1)) 13 0 (τ 13 0 ||| bp)) 11 0 x v i = τ v i := by
                  intro v i hv v7 v13 v11; simp [su_g, v7, v13, v11]; exact base v i hv
                refine ⟨⟨i1, by rw [fg _ _ (by decide) (by decide) (by decide) (by decide)]; exact i2, ?_, ?_, fun q hq => by rw [fg _ _ (by decide) (by decide) (by decide) (by decide), fg _ _ (by decide) (by decide) (by decide) (by decide)]; exact i5 q hq, ?_, ⟨?_, ?_, ?_, ?_⟩, fun i hi => ?_, by rw [fg _ _ (by decide) (by decide) (by decide) (by decide)]; exact i12⟩, fun ex => ?_⟩
                · rw [fg _ _ (by decide) (by decide) (by decide) (by decide)]; simp [su_g]; omega
                · simp [su_g]; omega
                · simp [su_g]; omega
                · rw [fg _ _ (by decide) (by decide) (by decide) (by decide)]; exact i7
                · simp [su_g]; exact nu_or64 _ i8 _ bpb
                · rw [fg _ _ (by decide) (by decide) (by decide) (by decide)]; exact i9
                · rw [fg _ _ (by decide) (by decide) (by decide) (by decide)]; exact i10
                · have hi2 : i < τ 7 0 + 1 := by simpa [su_g] using hi
                  have := hAI i hi2
                  unfold AI at this ⊢; simpa [su_g] using this
                · have hb2 : ∀ v i, v < 30 → v ≠ 7 → v ≠ 13 → su (su τf 7 0 (τ 7 0 + 1)) 13 0 (τ 13 0 ||| bp) v i = τ v i := by
                    intro v i hv v7 v13; simp [su_g, v7, v13]; exact base v i hv
                  refine ⟨i1, by rw [hb2 _ _ (by decide) (by decide) (by decide)]; exact i2, ?_, ?_, fun q hq => by rw [hb2 _ _ (by decide) (by decide) (by decide), hb2 _ _ (by decide) (by decide) (by decide)]; exact i5 q hq, ?_, ⟨?_, ?_, ?_, ?_⟩, fun i hi => ?_, by rw [hb2 _ _ (by decide) (by decide) (by decide)]; exact i12⟩
                  · rw [hb2 _ _ (by decide) (by decide) (by decide)]; simp [su_g]; omega
                  · simp [su_g]; omega
                  · rw [hb2 _ _ (by decide) (by decide) (by decide)]; simp [su_g]; omega
                  · rw [hb2 _ _ (by decide) (by decide) (by decide)]; exact i7
                  · simp [su_g]; exact nu_or64 _ i8 _ bpb
                  · rw [hb2 _ _ (by decide) (by decide) (by decide)]; exact i9
                  · rw [hb2 _ _ (by decide) (by decide) (by decide)]; exact i10
                  · have hi2 : i < τ 7 0 + 1 := by simpa [su_g] using hi
                    have := hAI i hi2
                    unfold AI at this ⊢; simpa [su_g] using this
              refine ⟨fun z => ?_, fun z S7 e7 => ?_⟩
              · have hk4 : ¬ k = 4 := fun q => z (by rw [q]; rfl)
                exact last _ S6 r6 g36 ((hI6 (τ 11 0) (by have := hIt.2.2.2.2.2.1; omega)).2 rfl) (by rw [if_neg hk4])
              · have hk4 : k = 4 := (nI_eq (b := 4) (by omega) (by decide)).mp z
                have e7' : S7 = wr S6 11 0 (nI (τ 7 0 + 1) - 1) := by rw [e7, nI_pred]
                refine last _ S7 (by rw [e7']; exact RC_11 r6) (by rw [e7, wr_1, if_neg (by decide)]; exact g36) (hI6 (τ 7 0 + 1) (Nat.le_refl _)).1 (by rw [if_pos hk4])
            refine ⟨fun z => ?_, fun z => ⟨?_, ?_⟩⟩
            · rw [E35] at z
              exact rest5 0 (by rw [(zI_0 _).mp z]; rfl)
            · rw [nu_pred (by omega)]; exact nu_in (by omega) (by decide)
            · rw [E35] at z
              have hw : wtK k = true := by
                cases q : wtK k
                · rw [q] at z; exact absurd rfl z
                · rfl
              rw [nu_pred (by omega), nu_cl (by omega), (row S9 r9.2.1).2.2.2.2.2]
              refine c_val r9 hIt (gs hw) ?_
              have E31 : S9.1 31 (σ 7 0) = nI k := by rw [e9, wr_1, if_neg (by decide), hfr 31 _ (by decide)]; exact D31
              have E36 : S9.1 36 (σ 7 0) = nI gt := by rw [e9]; simp [wr_1]
              have vb := (hI.2.2.2.2.1 (4 * h + u (at' - 1)) (by have := gs hw; omega)).1
              rw [tv 24 _ (by decide) (by decide)]
              refine ⟨fun z3 y1 ey1 => ?_, fun z3 y1 ey1 => ?_⟩
              · rw [E31] at z3
                have h3 : ¬ k = 3 := fun q => z3 (by rw [q]; rfl)
                have : y1 = nI (σ 24 (4 * h + u (at' - 1)) + 0) := by rw [ey1]; exact nI_add _ 0
                rw [this, nu_m4 (by omega)]
                exact rest5 _ (by rw [hw, if_neg h3]; rfl)
              · rw [E31] at z3
                have h3 : k = 3 := (nI_eq (b := 3) (by omega) (by decide)).mp z3
                rw [E36, nI_add] at ey1
                rw [ey1, nu_m4 (by omega)]
                exact rest5 _ (by rw [hw, if_pos h3]; rfl)
          refine ⟨fun z => ?_, fun z => ?_⟩
          · rw [D34] at z
            have hr := (zI_0 _).mp z
            exact rest4 σ S14 0 (by rw [hr]; rfl) (by rw [hr]; rfl) r14 (fun _ _ _ => rfl)
          · rw [D34] at z
            have hr : rdK k = true := by
              cases q : rdK k
              · rw [q] at z; exact absurd rfl z
              · rfl
            refine c_choose (lim := 4) r14 hK (hm hr) (fun T hT hf => ?_)
            exact rest4 (aCh σ 4) T (ch (σ 5 0)) (by rw [hr]; rfl) (by rw [hr]; rfl) hT hf
        refine ⟨fun z => ?_, fun z => ?_⟩
        · have h5 : ¬ k = 5 := fun q => z (by rw [q]; rfl)
          exact rest3 0 (by rw [if_neg h5])
        · have h5 : k = 5 := (nI_eq (b := 5) (by omega) (by decide)).mp z
          rw [r18.2.2.2.1.2.2.2.2.1]
          exact rest3 _ (by rw [if_pos h5])
      refine ⟨fun z => ?_, fun z => ⟨?_, ?_⟩⟩
      · rw [C35] at z
        exact rest2 0 (by rw [(zI_0 _).mp z]; rfl)
      · rw [nu_pred (by omega)]; exact nu_in (by omega) (by decide)
      · rw [C35] at z
        have hw : wtK k = true := by
          cases q : wtK k
          · rw [q] at z; exact absurd rfl z
          · rfl
        rw [nu_pred (by omega), nu_cl (by omega), (row S20 r20.2.1).2.2.2.2.2]
        refine c_car r20 hI (gs hw) ?_
        exact rest2 _ (by rw [hw]; rfl)
    refine ⟨nu_in (by omega) (by decide), fun z => ⟨nu_in (by omega) (by decide), ?_⟩, fun z => ?_⟩
    · rw [(row S40 r40.2.1).2.2.2.1] at z ⊢
      have hy0 : ¬ u (at' + 1) = 0 := fun q => z (by rw [q]; rfl)
      rw [nu_pred (by omega)]
      refine c_car r40 hI (by omega) ?_
      exact rest _ (by rw [if_neg hy0])
    · rw [(row S40 r40.2.1).2.2.2.1] at z
      have hy0 : u (at' + 1) = 0 := (nu_m1 (by omega)).mp z
      exact rest 0 (by rw [if_pos hy0])
  refine ⟨fun _ y46 e46 => ?_, fun z => absurd ?_ z⟩
  · rw [(row S hR.2.1).1] at e46
    subst e46
    have ek : ∀ m, m < 6 → (nI k = nI m ↔ k = m) := fun m hm => nI_eq (by omega) (by omega)
    have h3 : (k = 2 ∨ k = 3 ∨ k = 5) → bX5_makeAccess_29 Q r (nI k) S := by
      intro q
      have : at' = 3 := by rw [← haa, atK, if_pos q]
      rw [this] at main
      exact main
    refine ⟨fun z => h3 (Or.inl ((ek 2 (by decide)).mp z)), fun z2 => ⟨fun z => h3 (Or.inr (Or.inl ((ek 3 (by decide)).mp z))), fun z3 => ⟨fun z5 => ?_, fun z => h3 (Or.inr (Or.inr ((ek 5 (by decide)).mp z)))⟩⟩⟩
    have : at' = 2 := by
      rw [← haa, atK, if_neg]
      rintro (q | q | q)
      · exact z2 ((ek 2 (by decide)).mpr q)
      · exact z3 ((ek 3 (by decide)).mpr q)
      · exact z5 ((ek 5 (by decide)).mpr q)
    rw [this] at main
    exact main
  · rw [hR.2.2.2.1.2.1]; exact (nI_ltI (b := 6) (by omega) (by decide)).mpr hn
end SIM3
