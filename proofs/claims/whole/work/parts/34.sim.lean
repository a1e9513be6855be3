/-! the class's walk keeps to AW: an access is made -/
theorem nu_dec {m : Nat} (hm : m < 2 ^ 31) : nI m - 1 < nI m := by
  rcases Nat.eq_zero_or_pos m with rfl | hp
  · decide
  · rw [nu_pred hp]; exact nI_lt (by omega) hm
theorem nu_a1 {m : Nat} : nI m + (-1 : Int32) = nI m - 1 := by
  apply Int32.toBitVec_inj.mp
  simp [Int32.toBitVec_add, Int32.toBitVec_sub, BitVec.sub_eq_add_neg]
section SIM2
variable {mo K : Nat} {ch l0 : Nat → Nat} {S0 : St} {σ : AW} {S : St} {h : Nat}
theorem c_relate {k lc mk bp bv rs : Nat} {Q : St → Prop} (hR : RC mo K ch l0 S0 σ S) (hI : IN σ h) (hn6 : σ 7 0 < 6) (hk : k < 6) (hlc : lc < 3) (hmk : mk < 4) (hbp : bp < 64) (hbv : bv < 64) (hrs : rs ≤ 6) (hmo : mo < 3)
    (b32 : S.1 32 (σ 7 0) = nI lc) (b33 : S.1 33 (σ 7 0) = nI mk) (b34 : S.1 34 (σ 7 0) = zI (rdK k)) (b35 : S.1 35 (σ 7 0) = zI (wtK k)) (b38 : S.1 38 (σ 7 0) = nI bp) (b39 : S.1 39 (σ 7 0) = nI bv) (b40 : S.1 40 (σ 7 0) = nI rs - 1)
    (hQ : ∀ S', RC mo K ch l0 S0 σ S' → (∀ v i, v ≠ 41 → v ≠ 42 → v ≠ 43 → S'.1 v i = S.1 v i) → S'.1 43 (σ 7 0) = nI (msk (orP mo σ k lc mk (bp ||| bv) rs) (σ 10 0) (σ 7 0)) → S'.1 42 (σ 7 0) = nI (msk (twP σ k lc) (σ 10 0) (σ 7 0)) → S'.1 41 (σ 7 0) = nI (ownF (owP σ lc) (σ 10 0) (σ 7 0)) - 1 → Q S') : pX5_relate (σ 7 0) S Q := by
  have hfi := hI.2.2.1
  have loop : ∀ (d m : Nat) (T : St), m = σ 10 0 + d → m ≤ σ 7 0 → RC mo K ch l0 S0 σ T → (∀ v i, v ≠ 41 → v ≠ 42 → v ≠ 43 → T.1 v i = S.1 v i) → T.1 43 (σ 7 0) = nI (msk (orP mo σ k lc mk (bp ||| bv) rs) m (σ 7 0)) → T.1 42 (σ 7 0) = nI (msk (twP σ k lc) m (σ 7 0)) → T.1 41 (σ 7 0) = nI (ownF (owP σ lc) m (σ 7 0)) - 1 → ∃ N : Nat, itr (F := Nat → Int32 → St → Prop) (fun _ _ _ => False) (fun k22 x1 x2 S => bX5_relate_22 k22 Q x1 x2 S) N (σ 7 0) (nI m - 1) T := by
    intro d
    induction d with
    | zero =>
      intro m T em hm hT hfr t43 t42 t41
      have e : m = σ 10 0 := by omega
      subst e
      refine ⟨1, fun _ => hQ T hT hfr t43 t42 t41, fun z => absurd ?_ z⟩
      rw [hT.2.2.2.1.2.2.2.1]
      exact nu_dec (by omega)
    | succ d ih =>
      intro m T em hm hT hfr t43 t42 t41
      obtain ⟨j, rfl⟩ : ∃ j, m = j + 1 := ⟨m - 1, by omega⟩
      have hT' := hT
      obtain ⟨h1, h2, h3, ⟨c5, c7, c9, c10, c11, c12, c13, c14, c15⟩, h5, h6, h7, h8, h9, h10⟩ := hT'
      have hex : ∀ T' : St, RC mo K ch l0 S0 σ T' → (∀ v i, v ≠ 41 → v ≠ 42 → v ≠ 43 → T'.1 v i = S.1 v i) → T'.1 43 (σ 7 0) = nI (msk (orP mo σ k lc mk (bp ||| bv) rs) j (σ 7 0)) → T'.1 42 (σ 7 0) = nI (msk (twP σ k lc) j (σ 7 0)) → T'.1 41 (σ 7 0) = nI (ownF (owP σ lc) j (σ 7 0)) - 1 → ∃ N : Nat, itr (F := Nat → Int32 → St → Prop) (fun _ _ _ => False) (fun k22 x1 x2 S => bX5_relate_22 k22 Q x1 x2 S) N (σ 7 0) (nI j - 1) T' := fun T' a b c d' e' => ih j T' (by omega) (by omega) a b c d' e'
      rw [nI_pred]
      obtain ⟨a30, a31, a32, a33, a34, a35, -⟩ := h6 j (by omega)
      obtain ⟨q30, q31, q32, q33, -⟩ := hI.2.2.2.2.2.2.2.1 j (by omega)
      rw [zI_n] at a34 a35
      -- the state behind this row: which T' it is
      have step41 : ∃ T2 : St, RC mo K ch l0 S0 σ T2 ∧ (∀ v i, v ≠ 41 → v ≠ 42 → v ≠ 43 → T2.1 v i = S.1 v i) ∧ T2.1 43 (σ 7 0) = nI (msk (orP mo σ k lc mk (bp ||| bv) rs) (j + 1) (σ 7 0)) ∧ T2.1 42 (σ 7 0) = nI (msk (twP σ k lc) j (σ 7 0)) ∧ T2.1 41 (σ 7 0) = nI (ownF (owP σ lc) j (σ 7 0)) - 1 ∧ ∀ kk, bX5_relate_114 kk Q (σ 7 0) (nI j) T2 → bX5_relate_22 kk Q (σ 7 0) (nI j) T := by
        have hown : ownF (owP σ lc) (j + 1) (σ 7 0) ≤ 6 := Nat.le_trans (ownF_le _ _ _) (by omega)
        have lc_iff : T.1 32 j = T.1 32 (σ 7 0) ↔ σ 32 j = lc := by
          rw [a32, hfr 32 _ (by decide) (by decide) (by decide), b32]; exact nI_eq (by omega) (by omega)
        have none_iff : T.1 41 (σ 7 0) = (-1 : Int32) ↔ ownF (owP σ lc) (j + 1) (σ 7 0) = 0 := by rw [t41]; exact nu_m1 (by omega)
        have hnotlo : ¬ (nI j < T.1 10 0) := by rw [c10]; exact fun q => absurd ((nI_ltI (by omega) (by omega)).mp q) (by omega)
        by_cases hl : σ 32 j = lc
        · by_cases ho : ownF (owP σ lc) (j + 1) (σ 7 0) = 0
          · -- a twin, or the own write
            have etw : ∀ w : Bool, (rdK k && rdK (σ 31 j)) = w → msk (twP σ k lc) j (σ 7 0) = msk (twP σ k lc) (j + 1) (σ 7 0) ||| (if w = true then 2 ^ j else 0) := by
              intro w ew
              rw [msk_up _ (by omega)]
              have : twP σ k lc j = w := by simp [twP, hl, ho, ew]
              rw [this]
            have eow : ownF (owP σ lc) j (σ 7 0) = (if wtK (σ 31 j) = true then j + 1 else 0) := by
              rw [ownF_up _ _ (by omega), if_pos ho]
              simp [owP, hl]
            refine ⟨wr (wr T 42 (σ 7 0) (nI (msk (twP σ k lc) j (σ 7 0)))) 41 (σ 7 0) (nI (ownF (owP σ lc) j (σ 7 0)) - 1), RC_new (by decide) (RC_new (by decide) hT), fun v i v1 v2 v3 => ?_, ?_, ?_, ?_, fun kk h114 => ?_⟩
            · rw [wr_1, if_neg v1, wr_1, if_neg v2]; exact hfr v i v1 v2 v3
            · simpa [wr_1] using t43
            · simp [wr_1]
            · simp [wr_1]
            · have k94 : ∀ m2 : Nat, msk (twP σ k lc) (j + 1) (σ 7 0) ||| m2 = msk (twP σ k lc) j (σ 7 0) → bX5_relate_94 kk Q (σ 7 0) (nI j) j (σ 7 0) (T.1 42 (σ 7 0)) (nI m2) T := by
                intro m2 em2 S7 e7
                rw [t42, nu_or, em2] at e7
                have d35 : S7.1 35 j = zI (wtK (σ 31 j)) := by rw [e7]; simpa [wr_1] using a35
                refine ⟨fun z S6 e6 => ?_, fun z S6 e6 => ?_⟩
                · rw [d35] at z
                  rw [eow, (zI_0 _).mp z] at h114
                  rw [e6, e7]
                  exact h114
                · rw [d35] at z
                  have hw : wtK (σ 31 j) = true := by
                    cases q : wtK (σ 31 j)
                    · rw [q] at z; exact absurd rfl z
                    · rfl
                  rw [eow, hw, if_pos rfl, nI_pred] at h114
                  rw [e6, e7]
                  exact h114
              refine ⟨fun z => absurd z hnotlo, fun _ => ⟨nu_in (by omega) (by decide), fun i13 e13 => ?_⟩⟩
              rw [nu_cl (by omega)] at e13
              subst e13
              refine ⟨fun z => absurd (lc_iff.mpr hl) z, fun _ => ⟨fun z => absurd z (by decide), fun _ => ⟨fun z => absurd (none_iff.mpr ho) z, fun _ => ⟨fun z => ?_, fun z => ⟨fun z2 => ?_, fun z2 => ?_⟩⟩⟩⟩⟩
              · rw [hfr 34 _ (by decide) (by decide) (by decide), b34] at z
                exact k94 0 (by rw [etw false (by rw [(zI_0 _).mp z]; rfl)]; rfl)
              · rw [a34] at z2
                exact k94 0 (by rw [etw false (by rw [(zI_0 _).mp z2]; simp)]; rfl)
              · rw [hfr 34 _ (by decide) (by decide) (by decide), b34] at z
                rw [a34] at z2
                rw [nu_sh _ (by omega)]
                exact k94 _ (by
                  rw [etw true (by
                    cases q : rdK k
                    · rw [q] at z; exact absurd rfl z
                    · cases q2 : rdK (σ 31 i13)
                      · rw [q2] at z2; exact absurd rfl z2
                      · rfl)]
                  rfl)
          · have etw : msk (twP σ k lc) j (σ 7 0) = msk (twP σ k lc) (j + 1) (σ 7 0) := by
              rw [msk_up _ (by omega), if_neg (by simp [twP, ho]), Nat.or_zero]
            have eow : ownF (owP σ lc) j (σ 7 0) = ownF (owP σ lc) (j + 1) (σ 7 0) := by rw [ownF_up _ _ (by omega), if_neg ho]
            refine ⟨T, hT, hfr, t43, by rw [etw]; exact t42, by rw [eow]; exact t41, fun kk h114 => ⟨fun z => absurd z hnotlo, fun _ => ⟨nu_in (by omega) (by decide), fun i13 e13 => ?_⟩⟩⟩
            rw [nu_cl (by omega)] at e13
            subst e13
            exact ⟨fun z => absurd (lc_iff.mpr hl) z, fun _ => ⟨fun z => absurd z (by decide), fun _ => ⟨fun _ => h114, fun z => absurd (none_iff.mp z) ho⟩⟩⟩
        · have etw : msk (twP σ k lc) j (σ 7 0) = msk (twP σ k lc) (j + 1) (σ 7 0) := by
            rw [msk_up _ (by omega), if_neg (by simp [twP, hl]), Nat.or_zero]
          have eow : ownF (owP σ lc) j (σ 7 0) = ownF (owP σ lc) (j + 1) (σ 7 0) := by
            rw [ownF_up _ _ (by omega)]
            by_cases ho : ownF (owP σ lc) (j + 1) (σ 7 0) = 0
            · rw [if_pos ho, if_neg (by simp [owP, hl]), ho]
            · rw [if_neg ho]
          refine ⟨T, hT, hfr, t43, by rw [etw]; exact t42, by rw [eow]; exact t41, fun kk h114 => ⟨fun z => absurd z hnotlo, fun _ => ⟨nu_in (by omega) (by decide), fun i13 e13 => ?_⟩⟩⟩
          rw [nu_cl (by omega)] at e13
          subst e13
          exact ⟨fun _ => ⟨fun _ => h114, fun z => absurd rfl z⟩, fun z => absurd (lc_iff.mp z) hl⟩
      obtain ⟨T2, r2, f2, u43, u42, u41, hstep⟩ := step41
      have hf : ∀ v i, v ≠ 41 → v ≠ 42 → v ≠ 43 → T2.1 v i = S.1 v i := f2
      by_cases ho : orP mo σ k lc mk (bp ||| bv) rs j = true
      · have r3 : RC mo K ch l0 S0 σ (wr T2 43 (σ 7 0) (nI (msk (orP mo σ k lc mk (bp ||| bv) rs) j (σ 7 0)))) := RC_new (by decide) r2
        obtain ⟨N, hN⟩ := hex _ r3 (fun v i v1 v2 v3 => by rw [wr_1, if_neg v3]; exact f2 v i v1 v2 v3) (by simp [wr_1]) (by simpa [wr_1] using u42) (by simpa [wr_1] using u41)
        refine ⟨N + 1, hstep _ ?_⟩
        refine c_isOrdered (Q := fun r3 S2 => _) r2 hI (by omega) hk hlc hmk hbp hbv hrs hmo (by rw [hf 32 _ (by decide) (by decide) (by decide)]; exact b32) (by rw [hf 33 _ (by decide) (by decide) (by decide)]; exact b33) (by rw [hf 34 _ (by decide) (by decide) (by decide)]; exact b34) (by rw [hf 35 _ (by decide) (by decide) (by decide)]; exact b35) (by rw [hf 38 _ (by decide) (by decide) (by decide)]; exact b38) (by rw [hf 39 _ (by decide) (by decide) (by decide)]; exact b39) (by rw [hf 40 _ (by decide) (by decide) (by decide)]; exact b40) ?_
        rw [ho]
        refine ⟨fun z => absurd z (by decide), fun _ S4 e4 y1 ey => ?_⟩
        rw [ey, nu_a1, e4, u43, nu_sh _ (by omega), nu_or]
        have : msk (orP mo σ k lc mk (bp ||| bv) rs) (j + 1) (σ 7 0) ||| 2 ^ j = msk (orP mo σ k lc mk (bp ||| bv) rs) j (σ 7 0) := by rw [msk_up _ (show j < σ 7 0 by omega), if_pos ho]
        rw [this]
        exact hN
      · have eaf : msk (orP mo σ k lc mk (bp ||| bv) rs) j (σ 7 0) = msk (orP mo σ k lc mk (bp ||| bv) rs) (j + 1) (σ 7 0) := by rw [msk_up _ (by omega), if_neg ho, Nat.or_zero]
        obtain ⟨N, hN⟩ := hex T2 r2 f2 (by rw [eaf]; exact u43) u42 u41
        refine ⟨N + 1, hstep _ ?_⟩
        refine c_isOrdered (Q := fun r3 S2 => _) r2 hI (by omega) hk hlc hmk hbp hbv hrs hmo (by rw [hf 32 _ (by decide) (by decide) (by decide)]; exact b32) (by rw [hf 33 _ (by decide) (by decide) (by decide)]; exact b33) (by rw [hf 34 _ (by decide) (by decide) (by decide)]; exact b34) (by rw [hf 35 _ (by decide) (by decide) (by decide)]; exact b35) (by rw [hf 38 _ (by decide) (by decide) (by decide)]; exact b38) (by rw [hf 39 _ (by decide) (by decide) (by decide)]; exact b39) (by rw [hf 40 _ (by decide) (by decide) (by decide)]; exact b40) ?_
        have ho2 : orP mo σ k lc mk (bp ||| bv) rs j = false := by cases q : orP mo σ k lc mk (bp ||| bv) rs j; rfl; exact absurd q ho
        rw [ho2]
        refine ⟨fun _ y1 ey => ?_, fun z => absurd rfl z⟩
        rw [ey, nu_a1]
        exact hN
  intro S17 e17 S18 e18 S19 e19 y20 e20
  have r19 : RC mo K ch l0 S0 σ S19 := by rw [e19, e18, e17]; exact RC_new (by decide) (RC_new (by decide) (RC_new (by decide) hR))
  rw [r19.2.2.2.1.2.1] at e20
  rw [e20]
  refine loop (σ 7 0 - σ 10 0) (σ 7 0) S19 (by omega) (Nat.le_refl _) r19 (fun v i v1 v2 v3 => ?_) ?_ ?_ ?_
  · rw [e19, wr_1, if_neg v1, e18, wr_1, if_neg v2, e17, wr_1, if_neg v3]
  · rw [msk_top, e19, e18, e17]; simp [wr_1, nI_0]
  · rw [msk_top, e19, e18, e17]; simp [wr_1, nI_0]
  · rw [ownF_top _ _ _ (Nat.le_refl _), e19, e18, e17]; simp [wr_1, nI_0]
end SIM2
