/-! the reference's way keeps to AW: harts, the way -/
def PM (P : Nat → Nat → Nat → Nat) (L : Nat → Nat) (T : St) : Prop :=
  (∀ h, h < 4 → T.1 2 h = nI (L h) ∧ L h ≤ 6) ∧ (∀ h, h < 4 → ∀ i, i < L h → GR (P h i) ∧ ∀ j, j < 6 → T.1 1 (36 * h + 6 * i + j) = dcK (P h i 0) j (P h i j)) ∧ ac P 0 0 (L 0) + ac P 1 0 (L 1) + ac P 2 0 (L 2) + ac P 3 0 (L 3) ≤ 6
def RMw (K : Nat) (ch l0 : Nat → Nat) (T0 : St) (σ : AW) (T : St) : Prop :=
  (∀ v i, uM v = true → T.1 v i = T0.1 v i) ∧ T.2 = T0.2 ∧ CM K ch l0 σ T ∧ T.1 13 0 = nI (σ 7 0) ∧ T.1 24 0 = nI (σ 51 0) ∧
  (∀ k, k < 16 → T.1 11 k = nI (σ 24 k) ∧ T.1 12 k = nI (σ 25 k)) ∧ (∀ i, i < σ 7 0 → MF σ T i) ∧
  (∀ f, f < σ 51 0 → T.1 25 f = nI (σ 52 f) ∧ T.1 26 f = nI (σ 53 f) ∧ T.1 27 f = nI (σ 54 f) ∧ T.1 28 f = nI (σ 55 f))
theorem step_51 {mo : Nat} {u : Nat → Nat} {h : Nat} {σ : AW} {g : Nat} : (aStep mo u h σ g).1 51 0 ≤ σ 51 0 + 1 := by
  have l5 : ∀ (τ : AW) (g : Nat), aAcc mo u h τ g 51 0 = τ 51 0 := fun τ g => aAcc_lo (by decide) (by decide) (by decide) (by decide) (by decide) (by decide)
  unfold aStep
  repeat' split
  all_goals simp [su_g, aSet, aFence, aCh, l5]
section MHT
variable {mo K : Nat} {ch l0 : Nat → Nat} {T0 : St} {P : Nat → Nat → Nat → Nat} {L : Nat → Nat}
theorem nu_36 {h i : Nat} : (36 : Int32) * nI h + (6 : Int32) * nI i = nI (36 * h + 6 * i) := by
  rw [show (36 : Int32) = nI 36 from rfl, show (6 : Int32) = nI 6 from rfl, pk_mul, pk_mul, nI_add]
set_option maxHeartbeats 1000000 in
theorem m_hartLoop {h R : Nat} {Q : St → Prop} (hh : h < 4) (hPM : PM P L T0) (hK : K ≤ 6) (hch : ∀ j, ch j < 4) : ∀ (f i : Nat) (σ : AW) (T : St), i ≤ 20 → L h < i + f → RM K ch l0 T0 σ T → IN σ h → σ 7 0 + ac P h i (L h - i) + R ≤ 6 → σ 5 0 + ac P h i (L h - i) + R ≤ 6 → σ 51 0 ≤ 6 * h + min i 6 → (∀ T', RM K ch l0 T0 (aHart mo P L ch h f i σ) T' → aHart mo P L ch h f i σ 51 0 ≤ 6 * (h + 1) → Q T') →
    itr (F := Int32 → Int32 → St → Prop) (fun _ _ _ => False) (fun k12 x1 x2 S => bX7_doHart_12 k12 Q x1 x2 S) (f + 1) (nI h) (nI i) T := by
  have hL := (hPM.1 h hh).2
  have len : ∀ (σ : AW) (T : St), RM K ch l0 T0 σ T → T.1 2 h = nI (L h) := fun σ T hR => by rw [hR.1.1 2 h rfl]; exact (hPM.1 h hh).1
  have vh : vp_in (nI h) 4 := nu_in hh (by decide)
  have clh : (nI h).toNatClampNeg = h := nu_cl (by omega)
  intro f
  induction f with
  | zero =>
    intro i σ T hb hf hR hI h7 h5 h51 hQ
    refine ⟨vh, fun _ => hQ T hR (by show σ 51 0 ≤ _; omega), fun z => absurd ?_ z⟩
    rw [clh, len σ T hR]
    exact nI_le (by omega) (by omega)
  | succ f ih =>
    intro i σ T hb hf hR hI h7 h5 h51 hQ
    rw [aHart] at hQ
    refine ⟨vh, fun z => ?_, fun z => ?_⟩
    · rw [clh, len σ T hR, nI_leI (by omega) (by omega)] at z
      rw [if_neg (by omega)] at hQ
      exact hQ T hR (by omega)
    · rw [clh, len σ T hR, nI_leI (by omega) (by omega)] at z
      have hi : i < L h := by omega
      rw [if_pos hi] at hQ
      obtain ⟨hg, hu⟩ := hPM.2.1 h hh i hi
      have hac : ac P h i (L h - i) = b2n (decide (P h i 0 < 6)) + ac P h (i + 1) (L h - (i + 1)) := by rw [show L h - i = (L h - (i + 1)) + 1 by omega, ac]
      have hc : P h i 0 < 6 → σ 7 0 < 6 ∧ σ 5 0 < 6 := by
        intro q
        have : b2n (decide (P h i 0 < 6)) = 1 := by simp [b2n, q]
        omega
      have hsk := ac_skip P h (L h) (aStep mo (P h i) h σ (ch (σ 5 0))).2 (i + 1)
      obtain ⟨q7, q5⟩ := step_cnt (mo := mo) (h := h) (σ := σ) (g := ch (σ 5 0)) hg
      have q51 := step_51 (mo := mo) (u := P h i) (h := h) (σ := σ) (g := ch (σ 5 0))
      have hI' := IN_step (mo := mo) hI hg hc (hch (σ 5 0))
      have hd : (aStep mo (P h i) h σ (ch (σ 5 0))).2 ≤ 5 := by
        unfold aStep
        have : P h i 0 = 10 → P h i 2 < 6 := by
          intro q
          rcases hg with ⟨z, -⟩ | ⟨z, -⟩ | ⟨z, -⟩ | ⟨z, -⟩ | ⟨z, -⟩ | ⟨z, a, b, c⟩ <;> omega
        repeat' split
        all_goals (try exact Nat.zero_le _)
        rename_i q _
        have := this q
        omega
      have hk11 : P h i 0 < 11 := by rcases hg with ⟨q, -⟩ | ⟨q, -⟩ | ⟨q, -⟩ | ⟨q, -⟩ | ⟨q, -⟩ | ⟨q, -⟩ <;> omega
      have pr : ∀ (σ : AW) (T : St), RM K ch l0 T0 σ T → ∀ j, j < 6 → T.1 1 (36 * h + 6 * i + j) = dcK (P h i 0) j (P h i j) := fun σ T hR j hj => by rw [hR.1.1 1 _ rfl]; exact hu j hj
      generalize hu' : P h i = u at *
      have pr0 : T.1 1 (36 * h + 6 * i) = nI (u 0) := by
        have := pr σ T hR 0 (by decide)
        rw [Nat.add_zero] at this
        rw [this]; unfold dcK; rw [if_neg]
        unfold yK; split
        · omega
        · split <;> omega
      have hki : ∀ m, m < 11 → (nI (u 0) = nI m ↔ u 0 = m) := fun m hm => nI_eq (by omega) (by omega)
      have next : ∀ (T' : St) (d : Nat) (y : Int32), RM K ch l0 T0 (aStep mo u h σ (ch (σ 5 0))).1 T' → d = (aStep mo u h σ (ch (σ 5 0))).2 → y = nI (i + 1 + d) → itr (F := Int32 → Int32 → St → Prop) (fun _ _ _ => False) (fun k12 x1 x2 S => bX7_doHart_12 k12 Q x1 x2 S) (f + 1) (nI h) y T' := by
        intro T' d y hT' ed ey
        subst ey ed
        exact ih _ _ T' (by omega) (by omega) hT' hI' (by omega) (by omega) (by omega) hQ
      intro y9 e9
      rw [nu_36] at e9
      subst e9
      rw [show (1 : Int32) = nI 1 from rfl, nI_add, nu_cl (by omega), nu_cl (by omega), pr0]
      refine ⟨nu_in (by omega) (by decide), fun y11 e11 => ⟨nu_in (by omega) (by decide), fun y13 e13 y14 e14 => ?_⟩⟩
      rw [nI_add] at e14
      subst e11
      rw [show (2 : Int32) = nI 2 from rfl, show (3 : Int32) = nI 3 from rfl, nI_add, nI_add, nu_cl (by omega), nu_cl (by omega)]
      refine ⟨fun z6 => ?_, fun z6 => ?_⟩
      · have hk6 : 6 ≤ u 0 := (nI_leI (a := 6) (by decide) (by omega)).mp z6
        have g1 : u 1 < 4 ∧ u 2 < 6 ∧ ((u 0 = 8 ∨ u 0 = 9) → u 3 < 4) ∧ (u 0 < 10 → u 2 < 4) := by rcases hg with ⟨q, -⟩ | ⟨q, -⟩ | ⟨q, a, b⟩ | ⟨q, a, b⟩ | ⟨q, a, b, c⟩ | ⟨q, a, b, c⟩ <;> omega
        have y9 : yK (u 0) = 9 := by unfold yK; rw [if_neg (by omega), if_neg (by omega)]
        have pr' : ∀ (σ : AW) (T : St), RM K ch l0 T0 σ T → ∀ j, j < 6 → T.1 1 (36 * h + 6 * i + j) = nI (u j) := fun σ T hR j hj => by
          rw [pr σ T hR j hj]; unfold dcK; rw [if_neg (by omega)]
        have e13' : y13 = nI (4 * h + u 1) := by rw [e13, pr' σ T hR 1 (by decide), nu_4, pk_mul, nI_add]
        clear e13
        subst e13'
        have va : vp_in (nI (4 * h + u 1)) 16 := nu_in (by omega) (by decide)
        have cla : (nI (4 * h + u 1)).toNatClampNeg = 4 * h + u 1 := nu_cl (by omega)
        have hreg := hI.2.2.2.2.1
        have rg := hR.1.2.2.2.2.1
        refine ⟨fun n6 => ⟨fun n7 => ⟨fun n10 => ?_, fun z10 => ?_⟩, fun z7 => ?_⟩, fun z => ?_⟩
        · have k89 : u 0 = 8 ∨ u 0 = 9 := by
            have a : u 0 ≠ 6 := fun q => n6 ((hki 6 (by decide)).mpr q)
            have b : u 0 ≠ 7 := fun q => n7 ((hki 7 (by decide)).mpr q)
            have c : u 0 ≠ 10 := fun q => n10 ((hki 10 (by decide)).mpr q)
            omega
          have g3 := g1.2.2.1 k89
          have g2 := g1.2.2.2 (by omega)
          rw [pr' σ T hR 2 (by decide), pr' σ T hR 3 (by decide), nu_4, pk_mul, nI_add, nI_add]
          refine ⟨nu_in (by omega) (by decide), fun y16 e16 => ⟨nu_in (by omega) (by decide), fun y18 e18 => ?_⟩⟩
          subst e16 e18
          have v2 : vp_in (nI (4 * h + u 2)) 16 := nu_in (by omega) (by decide)
          have v3 : vp_in (nI (4 * h + u 3)) 16 := nu_in (by omega) (by decide)
          have b2 := hreg (4 * h + u 2) (by omega)
          have b3 := hreg (4 * h + u 3) (by omega)
          rw [nu_cl (by omega), nu_cl (by omega), (rg _ (by omega)).1, (rg _ (by omega)).1, show nI 3 = (3 : Int32) from rfl, nu_an3 _ b2.1 _ b3.1, nu_xor]
          have fin : ∀ (t : Nat), (aStep mo u h σ (ch (σ 5 0))) = (su (su σ 24 (4 * h + u 1) t) 25 (4 * h + u 1) (σ 25 (4 * h + u 2) ||| σ 25 (4 * h + u 3)), 0) → bX7_doHart_306 (itr (F := Int32 → Int32 → St → Prop) (fun _ _ _ => False) (fun k12 x1 x2 S => bX7_doHart_12 k12 Q x1 x2 S) (f + 1)) Q (nI h) y14 (nI (4 * h + u 1)) (nI (4 * h + u 2)) (nI (4 * h + u 3)) (nI t) T := by
            intro t et
            refine ⟨v2, v3, fun y3 e3 => ⟨va, fun S4 e4 => ⟨va, fun S6 e6 => ?_⟩⟩⟩
            rw [nu_cl (by omega), nu_cl (by omega), (rg _ (by omega)).2, (rg _ (by omega)).2, nu_or] at e3
            rw [cla] at e4 e6
            refine next S6 0 y14 ?_ (by rw [et]) (by rw [e14])
            rw [et]
            subst e6 e4 e3
            refine ⟨RM0_reg hR.1, by simpa [wr_1, su_g] using hR.2⟩
          refine ⟨fun n8 => ⟨v2, v3, fin _ ?_⟩, fun z8 => ⟨v2, v3, fin _ ?_⟩⟩
          · have k9 : u 0 = 9 := by
              have : u 0 ≠ 8 := fun q => n8 ((hki 8 (by decide)).mpr q)
              omega
            unfold aStep
            rw [if_neg (by omega), if_neg (by omega), if_neg (by omega), if_neg (by omega), if_pos k9, aSet]
            have xb : σ 24 (4 * h + u 2) ^^^ σ 24 (4 * h + u 3) < 4 := Nat.xor_lt_two_pow (n := 2) b2.1 b3.1
            rw [Nat.mod_eq_of_lt xb]
          · have k8 : u 0 = 8 := (hki 8 (by decide)).mp z8
            unfold aStep
            rw [if_neg (by omega), if_neg (by omega), if_neg (by omega), if_pos k8, aSet]
        · have k10 : u 0 = 10 := (hki 10 (by decide)).mp z10
          have es : aStep mo u h σ (ch (σ 5 0)) = (su σ 12 0 (σ 12 0 ||| σ 25 (4 * h + u 1)), if σ 24 (4 * h + u 1) = 0 then u 2 else 0) := by unfold aStep; rw [if_pos k10]
          rw [cla]
          refine ⟨va, fun S25 e25 => ⟨va, ?_⟩⟩
          rw [hR.1.2.2.2.1.2.1, (rg _ (by omega)).2, nu_or] at e25
          have hS : RM K ch l0 T0 (aStep mo u h σ (ch (σ 5 0))).1 S25 := by
            rw [es]; subst e25
            exact ⟨RM0_12 hR.1, by simpa [wr_1, su_g] using hR.2⟩
          have d11 : S25.1 11 (4 * h + u 1) = nI (σ 24 (4 * h + u 1)) := by rw [e25, wr_1, if_neg (by decide), (rg _ (by omega)).1]
          have b1 := hreg (4 * h + u 1) (by omega)
          rw [d11, nu_e0 (by omega), pr' _ S25 hS 2 (by decide)]
          refine ⟨fun w => ?_, fun w => ⟨nu_in (by omega) (by decide), ?_⟩⟩
          · refine next S25 0 y14 hS (by rw [es]; exact (if_neg w).symm) (by rw [e14])
          · refine next S25 (u 2) _ hS (by rw [es]; exact (if_pos w).symm) (by rw [e14, nI_add])
        · have k7 : u 0 = 7 := (hki 7 (by decide)).mp z7
          have g2 := g1.2.2.2 (by omega)
          have es : aStep mo u h σ (ch (σ 5 0)) = (su (su σ 24 (4 * h + u 1) (u 2)) 25 (4 * h + u 1) 0, 0) := by
            unfold aStep
            rw [if_neg (by omega), if_neg (by omega), if_pos k7, aSet, Nat.mod_eq_of_lt g2]
          rw [cla, pr' σ T hR 2 (by decide)]
          refine ⟨nu_in (by omega) (by decide), va, fun S31 e31 => ⟨va, fun S33 e33 => ?_⟩⟩
          refine next S33 0 y14 ?_ (by rw [es]) (by rw [e14])
          rw [es]
          subst e33 e31
          exact ⟨RM0_reg (c := 0) hR.1, by simpa [wr_1, su_g] using hR.2⟩
        · have k6 : u 0 = 6 := (hki 6 (by decide)).mp z
          have es : aStep mo u h σ (ch (σ 5 0)) = (aFence σ h (u 1) (u 2), 0) := by
            unfold aStep
            rw [if_neg (by omega), if_pos k6]
          have c24 := hR.1.2.2.2.1.2.2
          have v24 : vp_in (nI (σ 51 0)) 24 := nu_in (by omega) (by decide)
          have cl24 : (nI (σ 51 0)).toNatClampNeg = σ 51 0 := nu_cl (by omega)
          rw [c24, cl24]
          refine ⟨v24, fun S36 e36 => ?_⟩
          have d36 : S36.1 24 0 = nI (σ 51 0) := by rw [e36]; simpa [wr_1] using c24
          have d36' : S36.1 13 0 = nI (σ 7 0) := by rw [e36]; simpa [wr_1] using hR.1.2.2.2.1.1
          rw [d36, cl24, d36']
          refine ⟨v24, fun S38 e38 => ⟨nu_in (by omega) (by decide), ?_⟩⟩
          have d38 : S38.1 24 0 = nI (σ 51 0) := by rw [e38]; simpa [wr_1] using d36
          have d38' : S38.1 1 (36 * h + 6 * i + 1) = nI (u 1) := by rw [← pr' σ T hR 1 (by decide), e38, e36]; simp [wr_1]
          rw [d38, cl24, d38']
          refine ⟨v24, fun S41 e41 => ⟨nu_in (by omega) (by decide), ?_⟩⟩
          have d41 : S41.1 24 0 = nI (σ 51 0) := by rw [e41]; simpa [wr_1] using d38
          have d41' : S41.1 1 (36 * h + 6 * i + 2) = nI (u 2) := by rw [← pr' σ T hR 2 (by decide), e41, e38, e36]; simp [wr_1]
          rw [d41, cl24, d41']
          refine ⟨v24, fun S44 e44 S46 e46 => ?_⟩
          have d44 : S44.1 24 0 = nI (σ 51 0) := by rw [e44]; simpa [wr_1] using d41
          rw [d44, nI_add] at e46
          refine next S46 0 y14 ?_ (by rw [es]) (by rw [e14])
          rw [es]
          subst e46 e44 e41 e38 e36
          refine ⟨RM0_fence hR.1, ?_⟩
          have := hR.2
          simpa [wr_1, aFence, su_g] using this
      · have hk6 : u 0 < 6 := by
          rcases Nat.lt_or_ge (u 0) 6 with q | q
          · exact q
          · exact absurd (nI_le (a := 6) q (by omega)) z6
        obtain ⟨hn, hm⟩ := hc hk6
        have hd0 : (aStep mo u h σ (ch (σ 5 0))).2 = 0 := by
          unfold aStep
          rw [if_neg (by omega)]
          repeat' split
          all_goals rfl
        refine m_access (mo := mo) hR hI hK hch hg hk6 hn hm (by omega) hu (fun T' hT' => ?_)
        exact next T' 0 y14 hT' hd0.symm (by rw [e14])
theorem m_hart {h R : Nat} {σ : AW} {T : St} {Q : St → Prop} (hh : h < 4) (hPM : PM P L T0) (hK : K ≤ 6) (hch : ∀ j, ch j < 4) (hR : RMw K ch l0 T0 σ T) (hI : IN (aBeg σ h) h) (h7 : σ 7 0 + ac P h 0 (L h) + R ≤ 6) (h5 : σ 5 0 + ac P h 0 (L h) + R ≤ 6) (h51 : σ 51 0 ≤ 6 * h)
    (hQ : ∀ T', RMw K ch l0 T0 (aHt mo P L ch σ h) T' → aHt mo P L ch σ h 51 0 ≤ 6 * (h + 1) → Q T') : pX7_doHart (nI h) T Q := by
  have hL := (hPM.1 h hh)
  intro S51 e51 S52 e52
  have hR16 : RM K ch l0 T0 (aBeg σ h) S52 := by
    obtain ⟨r1, r2, r3, r13, r24, r5, r6, r7⟩ := hR
    subst e52 e51
    refine ⟨⟨fun v i hv => ?_, r2, by simpa [CM, wr_1, aBeg, su_g] using r3, by simp [wr_1, aBeg, su_g, r13, r24, nI_0], by simpa [wr_1, aBeg, su_g] using r5, by simpa [wr_1, aBeg, su_g, MF] using r6, by simpa [wr_1, aBeg, su_g] using r7⟩, by simp [wr_1, aBeg, su_g, nI_0]⟩
    rw [wr_1, if_neg, wr_1, if_neg]
    · exact r1 v i hv
    · intro e; subst e; cases hv
    · intro e; subst e; cases hv
  refine ⟨8, ?_⟩
  refine m_hartLoop (mo := mo) (R := R) hh hPM hK hch 7 0 (aBeg σ h) S52 (by omega) (by omega) hR16 hI (by simp only [aBeg, su_g]; simpa using h7) (by simp only [aBeg, su_g]; simpa using h5) (by simp only [aBeg, su_g]; simpa using h51) (fun T' hT' h51' => hQ T' ?_ h51')
  obtain ⟨⟨r1, r2, r3, ⟨r13, r33, r24⟩, r5, r6, r7⟩, -⟩ := hT'
  exact ⟨r1, r2, r3, r13, r24, r5, r6, r7⟩
theorem m_way {T : St} {Q : St → Prop} (hPM : PM P L T) (hK : K ≤ 6) (hch : ∀ j, ch j < 4) (s9 : T.1 9 0 = nI K) (s7 : ∀ j, j < K → T.1 7 j = nI (ch j) ∧ T.1 8 j = nI (l0 j)) (h0 : ∀ j, K ≤ j → ch j = 0)
    (hQ : ∀ T', RMw K ch l0 T (aWay mo P L ch) T' → Q T') : pX7_doWay T Q := by
  have ht : acR P L 0 ≤ 6 := hPM.2.2
  have hP : ∀ h, h < 4 → ∀ i, i < L h → GR (P h i) := fun h hh i hi => (hPM.2.1 h hh i hi).1
  intro S10 e10 S11 e11 S12 e12
  have loop2 : ∀ (d h : Nat) (T1 : St), h + d = 4 → RMw K ch l0 T (aW0 mo P L ch h) T1 → aW0 mo P L ch h 51 0 ≤ 6 * h → itr (F := Int32 → St → Prop) (fun _ _ => False) (fun k45 x1 S => bX7_doWay_45 k45 Q x1 S) (d + 1) (nI h) T1 := by
    intro d
    induction d with
    | zero =>
      intro h T1 hh hT h51
      have : h = 4 := by omega
      subst this
      exact ⟨fun _ => hQ T1 hT, fun z => absurd (nI_le (a := 4) (b := 4) (by omega) (by omega)) z⟩
    | succ d ih =>
      intro h T1 hh hT h51
      refine ⟨fun z => absurd ((nI_leI (a := 4) (by decide) (by omega)).mp z) (by omega), fun _ => ?_⟩
      obtain ⟨b1, b2, b3⟩ := aW0_ok (mo := mo) hP ht hch h (by omega)
      rw [acR_s (by omega)] at b2 b3
      refine m_hart (mo := mo) (R := acR P L (h + 1)) (by omega) hPM hK hch hT (IB_beg (by omega) b1) (by omega) (by omega) h51 (fun S' hS' h51' y2 e2 => ?_)
      rw [e2, nI_1]
      exact ih (h + 1) S' (by omega) hS' h51'
  have fr0 : ∀ v i, v ≠ 10 → v ≠ 13 → v ≠ 24 → S12.1 v i = T.1 v i := by
    intro v i a b c
    rw [e12, e11, e10, wr_1, if_neg c, wr_1, if_neg b, wr_1, if_neg a]
  have loop1 : ∀ (d k : Nat) (T1 : St), k + d = 16 → (∀ v i, v ≠ 11 → v ≠ 12 → T1.1 v i = S12.1 v i) → T1.2 = T.2 → (∀ j, j < k → T1.1 11 j = 0 ∧ T1.1 12 j = 0) → itr (F := Int32 → St → Prop) (fun _ _ => False) (fun k17 x1 S => bX7_doWay_17 k17 Q x1 S) (d + 1) (nI k) T1 := by
    intro d
    induction d with
    | zero =>
      intro k T1 hk f1 f2 f3
      have : k = 16 := by omega
      subst this
      refine ⟨fun _ => ⟨5, loop2 4 0 T1 (by omega) ?_ (Nat.zero_le _)⟩, fun z => absurd (nI_le (a := 16) (b := 16) (by omega) (by omega)) z⟩
      refine ⟨fun v i hv => ?_, f2, ⟨?_, ?_, fun j hj => ?_, h0, fun j _ hj => absurd hj (Nat.not_lt_zero _)⟩, ?_, ?_, fun j hj => f3 j hj, fun i hi => absurd hi (Nat.not_lt_zero _), fun i hi => absurd hi (Nat.not_lt_zero _)⟩
      · have : v ≤ 6 ∨ 29 ≤ v ∧ v ≤ 32 := by simpa [uM] using hv
        rw [f1 v i (by omega) (by omega), fr0 v i (by omega) (by omega) (by omega)]
      · rw [f1 _ _ (by decide) (by decide), e12, e11, e10]; simp [wr_1, aW0, nI_0]
      · rw [f1 _ _ (by decide) (by decide), fr0 _ _ (by decide) (by decide) (by decide), s9]
        congr 1
        show K = max K 0
        omega
      · rw [f1 _ _ (by decide) (by decide), fr0 _ _ (by decide) (by decide) (by decide), f1 _ _ (by decide) (by decide), fr0 _ _ (by decide) (by decide) (by decide)]
        exact s7 j hj
      · rw [f1 _ _ (by decide) (by decide), e12, e11]; simp [wr_1, aW0, nI_0]
      · rw [f1 _ _ (by decide) (by decide), e12]; simp [wr_1, aW0, nI_0]
    | succ d ih =>
      intro k T1 hk f1 f2 f3
      have hin : vp_in (nI k) 16 := nu_in (by omega) (by decide)
      refine ⟨fun z => absurd ((nI_leI (a := 16) (by decide) (by omega)).mp z) (by omega), fun _ => ⟨hin, fun S4 e4 => ⟨hin, fun S6 e6 y8 e8 => ?_⟩⟩⟩
      rw [nu_cl (by omega)] at e4 e6
      rw [e8, nI_1]
      subst e6 e4
      refine ih (k + 1) _ (by omega) (fun v i a b => ?_) f2 (fun j hj => ?_)
      · rw [wr_1, if_neg b, wr_1, if_neg a]; exact f1 v i a b
      · by_cases e : j = k
        · subst e; simp [wr_1]
        · simpa [wr_1, e] using f3 j (by omega)
  exact ⟨17, loop1 16 0 S12 (by omega) (fun _ _ _ _ => rfl) (by rw [e12, e11, e10]; rfl) (fun j hj => absurd hj (Nat.not_lt_zero _))⟩
end MHT
