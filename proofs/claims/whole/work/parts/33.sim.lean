/-! the class's walk keeps to AW: its methods, one by one -/
def zI (b : Bool) : Int32 := if b then 1 else 0
theorem zI_n (b : Bool) : nI (b2n b) = zI b := by cases b <;> rfl
theorem zI_0 (b : Bool) : zI b = 0 ↔ b = false := by cases b <;> decide
theorem zI_z (b : Bool) : zb (zI b) := by cases b; exact Or.inl rfl; exact Or.inr rfl
theorem nu_b0 : ∀ f, f < 4 → ((nI f &&& (1 : Int32)) = 0 ↔ f.testBit 0 = false) := by decide +kernel
theorem nu_b1 : ∀ f, f < 4 → ((nI f &&& (2 : Int32)) = 0 ↔ f.testBit 1 = false) := by decide +kernel
section SIM
variable {mo K : Nat} {ch l0 : Nat → Nat} {S0 : St} {σ : AW} {S : St} {h : Nat}
theorem c_val {r : Nat} {Q : Int32 → St → Prop} (hR : RC mo K ch l0 S0 σ S) (hI : IN σ h) (hr : r < 4) (hQ : Q (nI (σ 24 (4 * h + r))) S) : pX5_valueOf (nI r) S Q := by
  have c9 := hR.2.2.2.1.2.2.1
  have h5 := hR.2.2.2.2.1
  have hh := hI.1
  rw [hI.2.1] at c9
  unfold pX5_valueOf
  rw [c9, nu_ix]
  refine ⟨nu_in (by omega) (by decide), ?_⟩
  rw [nu_cl (by omega), (h5 _ (by omega)).1]
  exact hQ
theorem c_car {r : Nat} {Q : Int32 → St → Prop} (hR : RC mo K ch l0 S0 σ S) (hI : IN σ h) (hr : r < 4) (hQ : Q (nI (σ 25 (4 * h + r))) S) : pX5_carriedBy (nI r) S Q := by
  have c9 := hR.2.2.2.1.2.2.1
  have h5 := hR.2.2.2.2.1
  have hh := hI.1
  rw [hI.2.1] at c9
  unfold pX5_carriedBy
  rw [c9, nu_ix]
  refine ⟨nu_in (by omega) (by decide), ?_⟩
  rw [nu_cl (by omega), (h5 _ (by omega)).2]
  exact hQ
theorem c_reg {r v c : Nat} {Q : St → Prop} (hR : RC mo K ch l0 S0 σ S) (hI : IN σ h) (hr : r < 4) (hv : v < 2 ^ 31) (hQ : ∀ S', RC mo K ch l0 S0 (aSet σ h r v c) S' → (∀ w i, 30 ≤ w → S'.1 w i = S.1 w i) → Q S') : pX5_setRegister (nI r) (nI v) (nI c) S Q := by
  have c9 := hR.2.2.2.1.2.2.1
  have hh := hI.1
  rw [hI.2.1] at c9
  unfold pX5_setRegister
  rw [c9, nu_ix]
  refine ⟨nu_in (by omega) (by decide), fun S1 e1 => ?_⟩
  have d9 : S1.1 9 0 = nI h := by rw [e1]; simpa [wr_1] using c9
  rw [d9, nu_ix]
  refine ⟨nu_in (by omega) (by decide), fun S3 e3 => ?_⟩
  rw [nu_cl (by omega), nu_m4 hv] at e1
  rw [nu_cl (by omega), e1] at e3
  refine hQ S3 ?_ (fun w i hw => ?_)
  · rw [e3]; exact RC_reg hR
  · rw [e3, wr_1, if_neg (by omega), wr_1, if_neg (by omega)]
theorem c_place {x y : Nat} {Y : Int32} {Q : Int32 → St → Prop} (hR : RC mo K ch l0 S0 σ S) (hI : IN σ h) (hx : x < 3) (hy : y < 5) (hY : Y = nI y - 1) (hQ : Q (nI (aLoc σ h x y)) S) : pX5_place (nI x) Y S Q := by
  refine ⟨fun hn => ?_, fun he => ?_⟩
  · have hy0 : ¬ y = 0 := fun e => hn (by rw [hY, e]; rfl)
    have e1 : Y = nI (y - 1) := by rw [hY]; exact nu_pred (by omega)
    rw [e1]
    refine c_val hR hI (by omega) ?_
    show Q _ S
    have hb := (hI.2.2.2.2.1 (4 * h + (y - 1)) (by have := hI.1; omega)).1
    rw [nI_add, nu_m3 (by omega)]
    rw [aLoc, if_neg hy0] at hQ
    exact hQ
  · have hy0 : y = 0 := by
      rw [hY] at he
      exact (nu_m1 (by omega)).mp he
    show Q _ S
    rw [aLoc, if_pos hy0] at hQ
    exact hQ
theorem c_leftOut {r : Nat} {u : Nat → Nat} {Q : Int32 → St → Prop} (hR : RC mo K ch l0 S0 σ S) (hI : IN σ h) (hu : ∀ j, j < 6 → S0.2.1 r j = dcK (u 0) j (u j)) (h10 : u 0 = 10) (hg : u 1 < 4) (hQ : ∀ S', RC mo K ch l0 S0 (su σ 12 0 (σ 12 0 ||| σ 25 (4 * h + u 1))) S' → Q (nI (if σ 24 (4 * h + u 1) = 0 then u 2 else 0)) S') : pX5_leftOut r S Q := by
  have e2 := hR.2.1
  have r1 : S.2.1 r 1 = nI (u 1) := by rw [e2, hu 1 (by decide), h10]; rfl
  have c12 := hR.2.2.2.1.2.2.2.2.2.1
  unfold pX5_leftOut
  rw [r1]
  refine c_car hR hI hg (fun S3 e3 => ?_)
  rw [c12, nu_or] at e3
  have hR3 : RC mo K ch l0 S0 (su σ 12 0 (σ 12 0 ||| σ 25 (4 * h + u 1))) S3 := by rw [e3]; exact RC_sc (by simp) hR
  have hhh := hI.1
  have hb := hI.2.2.2.2.1 (4 * h + u 1) (by omega)
  have hI3 : IN (su σ 12 0 (σ 12 0 ||| σ 25 (4 * h + u 1))) h := by
    obtain ⟨i1, i2, i3, i4, i5, i6, ⟨i7, i8, i9, i10⟩, i11, i12⟩ := hI
    exact ⟨i1, by simpa [su_g] using i2, by simpa [su_g] using i3, by simpa [su_g] using i4, by simpa [su_g] using i5, by simpa [su_g] using i6, ⟨by simpa [su_g] using nu_or64 _ i7 _ hb.2, by simpa [su_g] using i8, by simpa [su_g] using i9, by simpa [su_g] using i10⟩, by simpa [su_g, AI] using i11, by simpa [su_g] using i12⟩
  have f1 : S3.2.1 r 1 = nI (u 1) := by rw [hR3.2.1, hu 1 (by decide), h10]; rfl
  have f2 : S3.2.1 r 2 = nI (u 2) := by rw [hR3.2.1, hu 2 (by decide), h10]; rfl
  rw [f1]
  refine c_val hR3 hI3 hg ⟨fun hz => ?_, fun hz => ?_⟩
  · have : ¬ σ 24 (4 * h + u 1) = 0 := fun e => hz (by simp [su_g, e, nI_0])
    have hq := hQ S3 hR3
    rw [if_neg this] at hq
    exact hq
  · have h0 : σ 24 (4 * h + u 1) = 0 := by
      have := (nu_e0 (a := su σ 12 0 (σ 12 0 ||| σ 25 (4 * h + u 1)) 24 (4 * h + u 1)) (by simp [su_g]; omega)).mp hz
      simpa [su_g] using this
    have hq := hQ S3 hR3
    rw [if_pos h0] at hq
    show Q _ S3
    rw [f2]
    exact hq
theorem c_fence {f1 f2 : Nat} {Q : St → Prop} (hR : RC mo K ch l0 S0 σ S) (hI : IN σ h) (hf1 : f1 < 4) (hf2 : f2 < 4) (hQ : ∀ S', RC mo K ch l0 S0 (aFence σ h f1 f2) S' → Q S') : pX5_fence (nI f1) (nI f2) S Q := by
  have hR' := hR
  obtain ⟨h1, h2, h3, ⟨c5, c7, c9, c10, c11, c12, c13, c14, c15⟩, h5, h6, h7, h8, h9, h10⟩ := hR'
  have hn := hI.2.2.2.1
  have hfi := hI.2.2.1
  intro y ey
  rw [c10] at ey
  subst ey
  have fin : ∀ (B : Nat), B = msk (fnP σ f1) (σ 10 0) (σ 7 0) → (((nI f2 &&& (1 : Int32)) = 0 → bX5_fence_111 Q (nI f2) (nI B) (S.1 14 0) (0 : Int32) S) ∧ (¬ ((nI f2 &&& (1 : Int32)) = 0) → bX5_fence_111 Q (nI f2) (nI B) (S.1 14 0) (nI B) S)) := by
    intro B eB
    have k131 : ∀ (S2 : St) (m14 m15 : Nat), S2 = wr S 14 0 (nI (σ 14 0 ||| m14)) → m14 = (if f2.testBit 0 then B else 0) → m15 = (if f2.testBit 1 then B else 0) → bX5_fence_131 Q (S2.1 15 0) (nI m15) S2 := by
      intro S2 m14 m15 eS e14 e15 S3 e3
      have e4 : S2.1 15 0 = nI (σ 15 0) := by rw [eS]; simpa [wr_1] using c15
      rw [e4, nu_or, eS] at e3
      refine hQ S3 ?_
      rw [e3]
      have q1 := RC_sc (v := 15) (x := σ 15 0 ||| m15) (by simp) (RC_sc (v := 14) (x := σ 14 0 ||| m14) (by simp) hR)
      unfold aFence
      dsimp only
      rw [← eB, ← e14, ← e15]
      exact RC_gh (by simp) (RC_gh (by simp) (RC_gh (by simp) (RC_gh (by simp) (RC_gh (by simp) q1))))
    have k111 : ∀ m14 : Nat, m14 = (if f2.testBit 0 then B else 0) → bX5_fence_111 Q (nI f2) (nI B) (S.1 14 0) (nI m14) S := by
      intro m14 e14 S2 e2
      rw [c14, nu_or] at e2
      refine ⟨fun hz => ?_, fun hz => ?_⟩
      · exact k131 S2 m14 0 e2 e14 (by rw [(nu_b1 f2 hf2).mp hz]; rfl)
      · exact k131 S2 m14 B e2 e14 (by
          have : f2.testBit 1 = true := by
            cases e : f2.testBit 1
            · exact absurd ((nu_b1 f2 hf2).mpr e) hz
            · rfl
          rw [this]; rfl)
    refine ⟨fun hz => ?_, fun hz => ?_⟩
    · exact k111 0 (by rw [(nu_b0 f2 hf2).mp hz]; rfl)
    · exact k111 B (by
        have : f2.testBit 0 = true := by
          cases e : f2.testBit 0
          · exact absurd ((nu_b0 f2 hf2).mpr e) hz
          · rfl
        rw [this]; rfl)
  have loop : ∀ (d i : Nat), i + d = σ 7 0 → σ 10 0 ≤ i → ∃ N : Nat, itr (F := Int32 → Int32 → Int32 → Int32 → St → Prop) (fun _ _ _ _ _ => False) (fun k8 x1 x2 x3 x4 S => bX5_fence_8 k8 Q x1 x2 x3 x4 S) N (nI f1) (nI f2) (nI (msk (fnP σ f1) (σ 10 0) i)) (nI i) S := by
    intro d
    induction d with
    | zero =>
      intro i hi hlo
      refine ⟨1, ?_, ?_⟩
      · intro _
        have e : i = σ 7 0 := by omega
        exact fin _ (by rw [e])
      · intro hc
        rw [c7] at hc
        exact absurd (nI_le (by omega) (by omega)) hc
    | succ d ih =>
      intro i hi hlo
      obtain ⟨N, hN⟩ := ih (i + 1) (by omega) (by omega)
      refine ⟨N + 1, ?_, ?_⟩
      · intro hc
        rw [c7] at hc
        exact absurd ((nI_leI (by omega) (by omega)).mp hc) (by omega)
      · intro _
        refine ⟨nu_in (by omega) (by decide), fun j ej => ?_⟩
        rw [nu_cl (by omega)] at ej
        subst ej
        have hA := h6 j (by omega)
        have a34 : S.1 34 j = zI (rdK (σ 31 j)) := by rw [hA.2.2.2.2.1, zI_n]
        have a35 : S.1 35 j = zI (wtK (σ 31 j)) := by rw [hA.2.2.2.2.2.1, zI_n]
        have k87 : ∀ m : Nat, m = (if fnP σ f1 j = true then 2 ^ j else 0) → bX5_fence_87 (itr (F := Int32 → Int32 → Int32 → Int32 → St → Prop) (fun _ _ _ _ _ => False) (fun k8 x1 x2 x3 x4 S => bX5_fence_8 k8 Q x1 x2 x3 x4 S) N) Q (nI f1) (nI f2) (nI j) (nI (msk (fnP σ f1) (σ 10 0) j)) (nI m) S := by
          intro m em y4 e4 y5 e5
          rw [e4, e5, nu_or, nI_1, em]
          have : msk (fnP σ f1) (σ 10 0) (j + 1) = msk (fnP σ f1) (σ 10 0) j ||| (if fnP σ f1 j = true then 2 ^ j else 0) := by
            rw [msk]
            congr 1
            by_cases q : fnP σ f1 j = true
            · rw [if_pos ⟨hlo, q⟩, if_pos q]
            · rw [if_neg (fun z => q z.2), if_neg q]
          rw [← this]
          exact hN
        have k66 : ∀ (b1 b2 : Bool), (b1 || b2) = fnP σ f1 j → bX5_fence_66 (itr (F := Int32 → Int32 → Int32 → Int32 → St → Prop) (fun _ _ _ _ _ => False) (fun k8 x1 x2 x3 x4 S => bX5_fence_8 k8 Q x1 x2 x3 x4 S) N) Q (nI f1) (nI f2) (nI (msk (fnP σ f1) (σ 10 0) j)) (nI j) (zI b1) (zI b2) S := by
          intro b1 b2 eb
          have k79 : fnP σ f1 j = true → bX5_fence_79 (itr (F := Int32 → Int32 → Int32 → Int32 → St → Prop) (fun _ _ _ _ _ => False) (fun k8 x1 x2 x3 x4 S => bX5_fence_8 k8 Q x1 x2 x3 x4 S) N) Q (nI f1) (nI f2) (nI j) (nI (msk (fnP σ f1) (σ 10 0) j)) S := by
            intro hp
            unfold bX5_fence_79
            rw [nu_sh j (by omega)]
            exact k87 _ (by rw [if_pos hp])
          refine ⟨fun hz => ?_, fun hz => ⟨fun hw => ?_, fun hw => ?_⟩⟩
          · cases b1
            · exact absurd rfl hz
            · exact k79 (by rw [← eb]; rfl)
          · have z1 := (zI_0 b1).mp hz
            have z2 := (zI_0 b2).mp hw
            exact k87 0 (by rw [if_neg]; rw [← eb, z1, z2]; decide)
          · cases b2
            · exact absurd rfl hw
            · exact k79 (by rw [← eb]; simp)
        have k45 : ∀ (b1 : Bool), b1 = (rdK (σ 31 j) && f1.testBit 0) → bX5_fence_45 (itr (F := Int32 → Int32 → Int32 → Int32 → St → Prop) (fun _ _ _ _ _ => False) (fun k8 x1 x2 x3 x4 S => bX5_fence_8 k8 Q x1 x2 x3 x4 S) N) Q (nI f1) (nI f2) (nI (msk (fnP σ f1) (σ 10 0) j)) (nI j) j (zI b1) S := by
          intro b1 e1
          refine ⟨fun hz => ?_, fun hz => ⟨fun hw => ?_, fun hw => ?_⟩⟩
          · rw [a35] at hz
            exact k66 b1 false (by rw [e1, fnP, (zI_0 _).mp hz]; simp)
          · exact k66 b1 false (by rw [e1, fnP, (nu_b1 f1 hf1).mp hw]; simp)
          · have t1 : wtK (σ 31 j) = true := by
              cases e : wtK (σ 31 j)
              · rw [a35, e] at hz; exact absurd rfl hz
              · rfl
            have t2 : f1.testBit 1 = true := by
              cases e : f1.testBit 1
              · exact absurd ((nu_b1 f1 hf1).mpr e) hw
              · rfl
            exact k66 b1 true (by rw [e1, fnP, t1, t2]; simp)
        refine ⟨fun hz => ?_, fun hz => ⟨fun hw => ?_, fun hw => ?_⟩⟩
        · rw [a34] at hz
          exact k45 false (by rw [(zI_0 _).mp hz]; rfl)
        · exact k45 false (by rw [(nu_b0 f1 hf1).mp hw]; simp)
        · have t1 : rdK (σ 31 j) = true := by
            cases e : rdK (σ 31 j)
            · rw [a34, e] at hz; exact absurd rfl hz
            · rfl
          have t2 : f1.testBit 0 = true := by
            cases e : f1.testBit 0
            · exact absurd ((nu_b0 f1 hf1).mpr e) hw
            · rfl
          exact k45 true (by rw [t1, t2]; rfl)
  have := loop (σ 7 0 - σ 10 0) (σ 10 0) (by omega) (Nat.le_refl _)
  rw [msk_top] at this
  exact this
theorem c_isOrdered {k lc mk bp bv rs a b : Nat} {Q : Int32 → St → Prop} (hR : RC mo K ch l0 S0 σ S) (hI : IN σ h) (ha : a < σ 7 0) (hk : k < 6) (hlc : lc < 3) (hmk : mk < 4) (hbp : bp < 64) (hbv : bv < 64) (hrs : rs ≤ 6) (hmo : mo < 3)
    (b32 : S.1 32 b = nI lc) (b33 : S.1 33 b = nI mk) (b34 : S.1 34 b = zI (rdK k)) (b35 : S.1 35 b = zI (wtK k)) (b38 : S.1 38 b = nI bp) (b39 : S.1 39 b = nI bv) (b40 : S.1 40 b = nI rs - 1)
    (hQ : Q (zI (orP mo σ k lc mk (bp ||| bv) rs a)) S) : pX5_isOrdered (nI a) b S Q := by
  obtain ⟨h1, h2, h3, ⟨c5, c7, c9, c10, c11, c12, c13, c14, c15⟩, h5, h6, h7, h8, h9, h10⟩ := hR
  obtain ⟨i1, i2, i3, i4, i5, i6, ⟨i7, i8, i9, i10⟩, i11, i12⟩ := hI
  obtain ⟨a30, a31, a32, a33, a34, a35, -⟩ := h6 a ha
  obtain ⟨q30, q31, q32, q33, -⟩ := i11 a ha
  rw [zI_n] at a34 a35
  have ha6 : a < 6 := by omega
  have k262 : ∀ t : Bool, orP mo σ k lc mk (bp ||| bv) rs a = t → bX5_isOrdered_262 Q (zI t) S := by
    intro t e; subst e; exact ⟨zI_z _, hQ⟩
  have k220 : ∀ b6 b7 b8 b9 b10 b11 t : Bool, orP mo σ k lc mk (bp ||| bv) rs a = (b6 || b7 || b8 || b9 || b10 || b11 || t) → bX5_isOrdered_220 Q (zI b6) (zI b7) (zI b8) (zI b9) (zI b10) (zI b11) (zI t) S := by
    intro b6 b7 b8 b9 b10 b11 t e
    have y : orP mo σ k lc mk (bp ||| bv) rs a = true → bX5_isOrdered_257 Q S := fun q => k262 true q
    refine ⟨fun z => y ?_, fun z6 => ⟨fun z => y ?_, fun z7 => ⟨fun z => y ?_, fun z8 => ⟨fun z => y ?_, fun z9 => ⟨fun z => y ?_, fun z10 => ⟨fun z => y ?_, fun z11 => ⟨fun z => ?_, fun z => y ?_⟩⟩⟩⟩⟩⟩⟩
    · cases b6; exact absurd rfl z; rw [e]; simp
    · cases b7; exact absurd rfl z; rw [e]; simp
    · cases b8; exact absurd rfl z; rw [e]; simp
    · cases b9; exact absurd rfl z; rw [e]; simp
    · cases b10; exact absurd rfl z; rw [e]; simp
    · cases b11; exact absurd rfl z; rw [e]; simp
    · exact k262 false (by rw [e, (zI_0 _).mp z6, (zI_0 _).mp z7, (zI_0 _).mp z8, (zI_0 _).mp z9, (zI_0 _).mp z10, (zI_0 _).mp z11, (zI_0 _).mp z]; rfl)
    · cases t; exact absurd rfl z; rw [e]; simp
  have k183 : ∀ b6 b7 b8 b9 b10 b11 : Bool, orP mo σ k lc mk (bp ||| bv) rs a = (b6 || b7 || b8 || b9 || b10 || b11 || (mo == 2 || (mo == 1 && (rdK (σ 31 a) || wtK k)))) → bX5_isOrdered_183 Q b a (zI b6) (zI b7) (zI b8) (zI b9) (zI b10) (zI b11) S := by
    intro b6 b7 b8 b9 b10 b11 e
    rcases (show mo = 0 ∨ mo = 1 ∨ mo = 2 by omega) with rfl | rfl | rfl
    · refine ⟨fun z => absurd (h3.symm.trans z) (by decide), fun _ => ⟨fun _ => ?_, fun z => absurd (h3.symm.trans z) (by decide)⟩⟩
      exact k220 b6 b7 b8 b9 b10 b11 false (by rw [e]; rfl)
    · refine ⟨fun z => absurd (h3.symm.trans z) (by decide), fun _ => ⟨fun z => absurd h3 z, fun _ => ⟨fun z => ?_, fun z => ⟨fun z2 => ?_, fun z2 => ?_⟩⟩⟩⟩
      · rw [a34] at z
        exact k220 b6 b7 b8 b9 b10 b11 true (by
          cases q : rdK (σ 31 a)
          · rw [q] at z; exact absurd rfl z
          · rw [e, q]; rfl)
      · rw [a34] at z; rw [b35] at z2
        exact k220 b6 b7 b8 b9 b10 b11 false (by rw [e, (zI_0 _).mp z, (zI_0 _).mp z2]; rfl)
      · rw [b35] at z2
        exact k220 b6 b7 b8 b9 b10 b11 true (by
          cases q : wtK k
          · rw [q] at z2; exact absurd rfl z2
          · rw [e, q]; simp)
    · refine ⟨fun _ => ?_, fun z => absurd h3 z⟩
      exact k220 b6 b7 b8 b9 b10 b11 true (by rw [e]; simp)
  have k167 : ∀ (b6 b7 b8 b9 b10 : Bool) (nd : Nat), nd < 64 → orP mo σ k lc mk (bp ||| bv) rs a = (b6 || b7 || b8 || b9 || b10 || nd.testBit a || (mo == 2 || (mo == 1 && (rdK (σ 31 a) || wtK k)))) → bX5_isOrdered_167 Q (nI a) b a (nI nd) (zI b6) (zI b7) (zI b8) (zI b9) (zI b10) S := by
    intro b6 b7 b8 b9 b10 nd hnd e
    refine ⟨fun z => ?_, fun z => ?_⟩
    · exact k183 b6 b7 b8 b9 b10 false (by rw [e, (nu_bit nd hnd a ha6).mp z])
    · exact k183 b6 b7 b8 b9 b10 true (by
        cases q : nd.testBit a
        · exact absurd ((nu_bit nd hnd a ha6).mpr q) z
        · rw [e, q])
  have k152 : ∀ (b6 b7 b8 b9 : Bool) (nd : Nat), nd < 64 → orP mo σ k lc mk (bp ||| bv) rs a = (b6 || b7 || b8 || b9 || (rs == a + 1) || nd.testBit a || (mo == 2 || (mo == 1 && (rdK (σ 31 a) || wtK k)))) → bX5_isOrdered_152 Q (nI a) b a (nI nd) (zI b6) (zI b7) (zI b8) (zI b9) S := by
    intro b6 b7 b8 b9 nd hnd e
    have key : S.1 40 b = nI a ↔ rs = a + 1 := by
      rw [b40]
      by_cases hr0 : rs = 0
      · subst hr0
        constructor
        · intro q; exact absurd q.symm (nu_ne1 (by omega))
        · intro q; omega
      · rw [nu_pred (by omega), nI_eq (by omega) (by omega)]
        omega
    refine ⟨fun z => ?_, fun z => ?_⟩
    · exact k167 b6 b7 b8 b9 false nd hnd (by
        have : (rs == a + 1) = false := by simp; intro q; exact z (key.mpr q)
        rw [e, this])
    · exact k167 b6 b7 b8 b9 true nd hnd (by
        have : (rs == a + 1) = true := by simp; exact key.mp z
        rw [e, this])
  have k131 : ∀ (b6 b7 b8 : Bool) (nd : Nat), nd < 64 → orP mo σ k lc mk (bp ||| bv) rs a = (b6 || b7 || b8 || (σ 33 a != 0 && mk != 0) || (rs == a + 1) || nd.testBit a || (mo == 2 || (mo == 1 && (rdK (σ 31 a) || wtK k)))) → bX5_isOrdered_131 Q (nI a) b a (nI nd) (zI b6) (zI b7) (zI b8) S := by
    intro b6 b7 b8 nd hnd e
    refine ⟨fun z => ?_, fun z => ⟨fun z2 => ?_, fun z2 => ?_⟩⟩
    · rw [a33] at z
      exact k152 b6 b7 b8 false nd hnd (by rw [e, (nu_e0 (by omega)).mp z]; simp)
    · rw [b33] at z2
      exact k152 b6 b7 b8 false nd hnd (by rw [e, (nu_e0 (by omega)).mp z2]; simp)
    · rw [a33] at z; rw [b33] at z2
      exact k152 b6 b7 b8 true nd hnd (by
        have e1 : (σ 33 a != 0) = true := by simp; intro q; exact z (by rw [q]; rfl)
        have e2 : (mk != 0) = true := by simp; intro q; exact z2 (by rw [q]; rfl)
        rw [e, e1, e2]; simp)
  have k106 : ∀ (b6 b7 : Bool) (nd : Nat), nd < 64 → orP mo σ k lc mk (bp ||| bv) rs a = (b6 || b7 || ((σ 33 a).testBit 0 || mk.testBit 1) || (σ 33 a != 0 && mk != 0) || (rs == a + 1) || nd.testBit a || (mo == 2 || (mo == 1 && (rdK (σ 31 a) || wtK k)))) → bX5_isOrdered_106 Q (nI a) b a (nI nd) (zI b6) (zI b7) S := by
    intro b6 b7 nd hnd e
    refine ⟨fun z => ?_, fun z => ⟨fun z2 => ?_, fun z2 => ?_⟩⟩
    · rw [a33] at z
      exact k131 b6 b7 true nd hnd (by
        cases q : (σ 33 a).testBit 0
        · exact absurd ((nu_b0 _ q33).mpr q) z
        · rw [e, q]; simp)
    · rw [a33] at z; rw [b33] at z2
      exact k131 b6 b7 false nd hnd (by rw [e, (nu_b0 _ q33).mp z, (nu_b1 _ hmk).mp z2]; simp)
    · rw [b33] at z2
      exact k131 b6 b7 true nd hnd (by
        cases q : mk.testBit 1
        · exact absurd ((nu_b1 _ hmk).mpr q) z2
        · rw [e, q]; simp)
  have k90 : ∀ (b6 : Bool) (nd fn : Nat), nd < 64 → fn < 64 → orP mo σ k lc mk (bp ||| bv) rs a = (b6 || fn.testBit a || ((σ 33 a).testBit 0 || mk.testBit 1) || (σ 33 a != 0 && mk != 0) || (rs == a + 1) || nd.testBit a || (mo == 2 || (mo == 1 && (rdK (σ 31 a) || wtK k)))) → bX5_isOrdered_90 Q (nI a) b a (nI nd) (nI fn) (zI b6) S := by
    intro b6 nd fn hnd hfn e
    refine ⟨fun z => ?_, fun z => ?_⟩
    · exact k106 b6 false nd hnd (by rw [e, (nu_bit fn hfn a ha6).mp z])
    · exact k106 b6 true nd hnd (by
        cases q : fn.testBit a
        · exact absurd ((nu_bit fn hfn a ha6).mpr q) z
        · rw [e, q])
  have k67 : ∀ (nd fn : Nat), nd < 64 → fn < 64 → orP mo σ k lc mk (bp ||| bv) rs a = ((wtK k && σ 32 a == lc) || fn.testBit a || ((σ 33 a).testBit 0 || mk.testBit 1) || (σ 33 a != 0 && mk != 0) || (rs == a + 1) || nd.testBit a || (mo == 2 || (mo == 1 && (rdK (σ 31 a) || wtK k)))) → bX5_isOrdered_67 Q (nI a) b a (nI nd) (nI fn) S := by
    intro nd fn hnd hfn e
    have key : S.1 32 a = S.1 32 b ↔ σ 32 a = lc := by rw [a32, b32]; exact nI_eq (by omega) (by omega)
    refine ⟨fun z => ?_, fun z => ⟨fun z2 => ?_, fun z2 => ?_⟩⟩
    · rw [b35] at z
      exact k90 false nd fn hnd hfn (by rw [e, (zI_0 _).mp z]; simp)
    · exact k90 false nd fn hnd hfn (by
        have : (σ 32 a == lc) = false := by simp; intro q; exact z2 (key.mpr q)
        rw [e, this]; simp)
    · rw [b35] at z
      exact k90 true nd fn hnd hfn (by
        have e1 : (σ 32 a == lc) = true := by simp; exact key.mp z2
        cases q : wtK k
        · rw [q] at z; exact absurd rfl z
        · rw [e, q, e1]; simp)
  have hor := nu_or64 bp hbp bv hbv
  have k37 : ∀ (fn : Nat), fn < 64 → fn = (if rdK k then σ 14 0 else 0) → bX5_isOrdered_37 Q (nI a) b a (nI (bp ||| bv)) (nI fn) S := by
    intro fn hfn efn
    refine ⟨fun z => ?_, fun z y21 e21 y22 e22 => ?_⟩
    · rw [b35] at z
      have hw := (zI_0 _).mp z
      exact k67 (bp ||| bv) fn hor hfn (by rw [orP, hw, efn]; simp)
    · rw [b35] at z
      have hw : wtK k = true := by
        cases q : wtK k
        · rw [q] at z; exact absurd rfl z
        · rfl
      rw [c15, nu_or] at e21
      rw [c12, c13, nu_or, nu_or] at e22
      rw [e21, e22]
      exact k67 _ _ (nu_or64 _ hor _ (nu_or64 _ i7 _ i8)) (nu_or64 _ hfn _ i10) (by rw [orP, hw, efn]; simp)
  refine ⟨nu_in (by omega) (by decide), fun i24 e24 y26 e26 => ?_⟩
  rw [nu_cl (by omega)] at e24
  subst e24
  rw [b38, b39, nu_or] at e26
  subst e26
  refine ⟨fun z => ?_, fun z y27 e27 => ?_⟩
  · rw [b34] at z
    exact k37 0 (by decide) (by rw [(zI_0 _).mp z]; rfl)
  · rw [b34] at z
    rw [c14] at e27
    have e28 : y27 = nI (σ 14 0) := by
      rw [e27]
      have := nu_or 0 (σ 14 0)
      rw [Nat.zero_or] at this
      exact this
    rw [e28]
    exact k37 _ i9 (by
      cases q : rdK k
      · rw [q] at z; exact absurd rfl z
      · rfl)
end SIM
