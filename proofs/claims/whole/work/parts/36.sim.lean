/-! the class's walk keeps to AW: fails, step, and what AW's steps keep -/
theorem IN_set {σ : AW} {h r v c : Nat} (hI : IN σ h) (hr : r < 4) (hc : c < 64) : IN (aSet σ h r v c) h := by
  obtain ⟨i1, i2, i3, i4, i5, i6, i7, i11, i12⟩ := hI
  refine ⟨i1, by simpa [su_g, aSet] using i2, by simpa [su_g, aSet] using i3, by simpa [su_g, aSet] using i4, fun k hk => ?_, by simpa [su_g, aSet] using i6, by simpa [su_g, aSet] using i7, by simpa [su_g, aSet, AI] using i11, by simpa [su_g, aSet] using i12⟩
  by_cases e : k = 4 * h + r
  · subst e; simp [su_g, aSet]; exact ⟨Nat.mod_lt _ (by decide), hc⟩
  · simpa [su_g, aSet, e] using i5 k hk
theorem IN_11 {σ : AW} {h x : Nat} (hI : IN σ h) (hx : x ≤ σ 7 0) : IN (su σ 11 0 x) h := by
  obtain ⟨i1, i2, i3, i4, i5, i6, i7, i11, i12⟩ := hI
  exact ⟨i1, by simpa [su_g] using i2, by simpa [su_g] using i3, by simpa [su_g] using i4, by simpa [su_g] using i5, by simpa [su_g] using hx, by simpa [su_g] using i7, by simpa [su_g, AI] using i11, by simpa [su_g] using i12⟩
theorem IN_12 {σ : AW} {h x : Nat} (hI : IN σ h) (hx : x < 64) : IN (su σ 12 0 x) h := by
  obtain ⟨i1, i2, i3, i4, i5, i6, ⟨i7, i8, i9, i10⟩, i11, i12⟩ := hI
  exact ⟨i1, by simpa [su_g] using i2, by simpa [su_g] using i3, by simpa [su_g] using i4, by simpa [su_g] using i5, by simpa [su_g] using i6, ⟨by simpa [su_g] using hx, by simpa [su_g] using i8, by simpa [su_g] using i9, by simpa [su_g] using i10⟩, by simpa [su_g, AI] using i11, by simpa [su_g] using i12⟩
theorem IN_fence {σ : AW} {h f1 f2 : Nat} (hI : IN σ h) : IN (aFence σ h f1 f2) h := by
  obtain ⟨i1, i2, i3, i4, i5, i6, ⟨i7, i8, i9, i10⟩, i11, i12⟩ := hI
  have hb : msk (fnP σ f1) (σ 10 0) (σ 7 0) < 64 := msk_lt64 _ _ i4
  have hb1 : (if f2.testBit 0 = true then msk (fnP σ f1) (σ 10 0) (σ 7 0) else 0) < 64 := by split; exact hb; decide
  have hb2 : (if f2.testBit 1 = true then msk (fnP σ f1) (σ 10 0) (σ 7 0) else 0) < 64 := by split; exact hb; decide
  have g : ∀ v i, v ≠ 14 → v ≠ 15 → v < 51 → aFence σ h f1 f2 v i = σ v i := by
    intro v i v14 v15 hv
    unfold aFence
    simp only [su_g]
    repeat rw [if_neg (by omega)]
  have g14 : aFence σ h f1 f2 14 0 < 64 := by
    show (σ 14 0 ||| (if f2.testBit 0 = true then msk (fnP σ f1) (σ 10 0) (σ 7 0) else 0)) < 64
    exact nu_or64 _ i9 _ hb1
  have g15 : aFence σ h f1 f2 15 0 < 64 := by
    show (σ 15 0 ||| (if f2.testBit 1 = true then msk (fnP σ f1) (σ 10 0) (σ 7 0) else 0)) < 64
    exact nu_or64 _ i10 _ hb2
  refine ⟨i1, by rw [g _ _ (by decide) (by decide) (by decide)]; exact i2, by rw [g _ _ (by decide) (by decide) (by decide), g _ _ (by decide) (by decide) (by decide)]; exact i3, by rw [g _ _ (by decide) (by decide) (by decide)]; exact i4, fun k hk => by rw [g _ _ (by decide) (by decide) (by decide), g _ _ (by decide) (by decide) (by decide)]; exact i5 k hk, by rw [g _ _ (by decide) (by decide) (by decide), g _ _ (by decide) (by decide) (by decide)]; exact i6, ⟨by rw [g _ _ (by decide) (by decide) (by decide)]; exact i7, by rw [g _ _ (by decide) (by decide) (by decide)]; exact i8, g14, g15⟩, fun i hi => ?_, by rw [g _ _ (by decide) (by decide) (by decide)]; exact i12⟩
  rw [g _ _ (by decide) (by decide) (by decide)] at hi
  have := i11 i hi
  unfold AI at this ⊢
  simp only [g _ i (show (30 : Nat) ≠ 14 by decide) (by decide) (by decide), g _ i (show (31 : Nat) ≠ 14 by decide) (by decide) (by decide), g _ i (show (32 : Nat) ≠ 14 by decide) (by decide) (by decide), g _ i (show (33 : Nat) ≠ 14 by decide) (by decide) (by decide), g _ i (show (36 : Nat) ≠ 14 by decide) (by decide) (by decide), g _ i (show (37 : Nat) ≠ 14 by decide) (by decide) (by decide), g _ i (show (38 : Nat) ≠ 14 by decide) (by decide) (by decide), g _ i (show (39 : Nat) ≠ 14 by decide) (by decide) (by decide), g _ i (show (40 : Nat) ≠ 14 by decide) (by decide) (by decide), g _ i (show (41 : Nat) ≠ 14 by decide) (by decide) (by decide), g _ i (show (42 : Nat) ≠ 14 by decide) (by decide) (by decide), g _ i (show (43 : Nat) ≠ 14 by decide) (by decide) (by decide), g _ i (show (50 : Nat) ≠ 14 by decide) (by decide) (by decide)]
  exact this
/-- the newest access in AW, taken apart -/
theorem aAcc_eq (mo : Nat) (u : Nat → Nat) (h : Nat) (σ : AW) (g : Nat) : ∃ (lc bp bv rs gt pt af ow tw : Nat), lc = aLoc σ h (u (atK (u 0))) (u (atK (u 0) + 1)) ∧ bp = (if u (atK (u 0) + 1) = 0 then 0 else σ 25 (4 * h + (u (atK (u 0) + 1) - 1))) ∧ bv = (if wtK (u 0) then σ 25 (4 * h + u (atK (u 0) - 1)) else 0) ∧ rs = (if u 0 = 5 then σ 11 0 else 0) ∧ gt = (if rdK (u 0) then g else 0) ∧ pt = (if wtK (u 0) then (σ 24 (4 * h + u (atK (u 0) - 1)) + (if u 0 = 3 then gt else 0)) % 4 else 0) ∧
    af = msk (orP mo σ (u 0) lc (u (atK (u 0) + 2)) (bp ||| bv) rs) (σ 10 0) (σ 7 0) ∧ ow = ownF (owP σ lc) (σ 10 0) (σ 7 0) ∧ tw = msk (twP σ (u 0) lc) (σ 10 0) (σ 7 0) ∧
    ∀ τ : AW, τ = su (su (su (su (su (su (su (su (su (su (su (su (su σ 30 (σ 7 0) h) 31 (σ 7 0) (u 0)) 32 (σ 7 0) lc) 33 (σ 7 0) (u (atK (u 0) + 2))) 36 (σ 7 0) gt) 37 (σ 7 0) pt) 38 (σ 7 0) bp) 39 (σ 7 0) bv) 40 (σ 7 0) rs) 41 (σ 7 0) ow) 42 (σ 7 0) tw) 43 (σ 7 0) af) 50 (σ 7 0) (σ 12 0) →
      aAcc mo u h σ g = (if u 0 = 1 then (if u 0 = 4 then su (su (su τ 7 0 (σ 7 0 + 1)) 13 0 (σ 13 0 ||| bp)) 11 0 (σ 7 0 + 1) else su (su τ 7 0 (σ 7 0 + 1)) 13 0 (σ 13 0 ||| bp)) else aSet (if u 0 = 4 then su (su (su τ 7 0 (σ 7 0 + 1)) 13 0 (σ 13 0 ||| bp)) 11 0 (σ 7 0 + 1) else su (su τ 7 0 (σ 7 0 + 1)) 13 0 (σ 13 0 ||| bp)) h (u 1) gt (2 ^ (σ 7 0))) :=
  ⟨_, _, _, _, _, _, _, _, _, rfl, rfl, rfl, rfl, rfl, rfl, rfl, rfl, rfl, fun τ e => by subst e; rfl⟩
/-- an entry behind an access: below 30 -/
theorem aAcc_lo {mo : Nat} {u : Nat → Nat} {h : Nat} {σ : AW} {g v i : Nat} (hv : v < 30 ∨ 50 < v) (h7 : v ≠ 7) (h13 : v ≠ 13) (h11 : v ≠ 11) (h24 : v ≠ 24) (h25 : v ≠ 25) : aAcc mo u h σ g v i = σ v i := by
  obtain ⟨lc, bp, bv, rs, gt, pt, af, ow, tw, -, -, -, -, -, -, -, -, -, e⟩ := aAcc_eq mo u h σ g
  rw [e _ rfl]
  have hb : ∀ x, su (su (su (su (su (su (su (su (su (su (su (su (su σ 30 (σ 7 0) h) 31 (σ 7 0) (u 0)) 32 (σ 7 0) lc) 33 (σ 7 0) (u (atK (u 0) + 2))) 36 (σ 7 0) gt) 37 (σ 7 0) pt) 38 (σ 7 0) bp) 39 (σ 7 0) bv) 40 (σ 7 0) rs) 41 (σ 7 0) ow) 42 (σ 7 0) tw) 43 (σ 7 0) af) 50 (σ 7 0) x v i = σ v i := by
    intro x; simp only [su_g]
    repeat rw [if_neg (by omega)]
  have hc : ∀ c d f, (if u 0 = 4 then su (su (su (su (su (su (su (su (su (su (su (su (su (su (su (su σ 30 (σ 7 0) h) 31 (σ 7 0) (u 0)) 32 (σ 7 0) lc) 33 (σ 7 0) (u (atK (u 0) + 2))) 36 (σ 7 0) gt) 37 (σ 7 0) pt) 38 (σ 7 0) bp) 39 (σ 7 0) bv) 40 (σ 7 0) rs) 41 (σ 7 0) ow) 42 (σ 7 0) tw) 43 (σ 7 0) af) 50 (σ 7 0) (σ 12 0)) 7 0 c) 13 0 d) 11 0 f else su (su (su (su (su (su (su (su (su (su (su (su (su (su (su σ 30 (σ 7 0) h) 31 (σ 7 0) (u 0)) 32 (σ 7 0) lc) 33 (σ 7 0) (u (atK (u 0) + 2))) 36 (σ 7 0) gt) 37 (σ 7 0) pt) 38 (σ 7 0) bp) 39 (σ 7 0) bv) 40 (σ 7 0) rs) 41 (σ 7 0) ow) 42 (σ 7 0) tw) 43 (σ 7 0) af) 50 (σ 7 0) (σ 12 0)) 7 0 c) 13 0 d) v i = σ v i := by
    intro c d f
    split
    · rw [su_g, if_neg (by omega), su_g, if_neg (by omega), su_g, if_neg (by omega), hb]
    · rw [su_g, if_neg (by omega), su_g, if_neg (by omega), hb]
  split
  · exact hc _ _ _
  · rw [aSet, su_g, if_neg (by omega), su_g, if_neg (by omega)]; exact hc _ _ _
theorem aAcc_7 {mo : Nat} {u : Nat → Nat} {h : Nat} {σ : AW} {g : Nat} : aAcc mo u h σ g 7 0 = σ 7 0 + 1 := by
  obtain ⟨lc, bp, bv, rs, gt, pt, af, ow, tw, -, -, -, -, -, -, -, -, -, e⟩ := aAcc_eq mo u h σ g
  rw [e _ rfl]
  split <;> split <;> simp [aSet, su_g]
/-- accesses that were there stay -/
theorem aAcc_old {mo : Nat} {u : Nat → Nat} {h : Nat} {σ : AW} {g v i : Nat} (hv : 30 ≤ v) (hi : i < σ 7 0) : aAcc mo u h σ g v i = σ v i := by
  obtain ⟨lc, bp, bv, rs, gt, pt, af, ow, tw, -, -, -, -, -, -, -, -, -, e⟩ := aAcc_eq mo u h σ g
  rw [e _ rfl]
  have hb : ∀ x, su (su (su (su (su (su (su (su (su (su (su (su (su σ 30 (σ 7 0) h) 31 (σ 7 0) (u 0)) 32 (σ 7 0) lc) 33 (σ 7 0) (u (atK (u 0) + 2))) 36 (σ 7 0) gt) 37 (σ 7 0) pt) 38 (σ 7 0) bp) 39 (σ 7 0) bv) 40 (σ 7 0) rs) 41 (σ 7 0) ow) 42 (σ 7 0) tw) 43 (σ 7 0) af) 50 (σ 7 0) x v i = σ v i := by
    intro x; simp only [su_g]
    repeat rw [if_neg (by omega)]
  split <;> split <;> simp only [aSet, su_g (v' := v)] <;> (repeat rw [if_neg (by omega)])
theorem IN_acc {mo : Nat} {u : Nat → Nat} {h : Nat} {σ : AW} {g : Nat} (hI : IN σ h) (hg : GR u) (hk : u 0 < 6) (hn : σ 7 0 < 6) (hgt : g < 4) : IN (aAcc mo u h σ g) h := by
  obtain ⟨g1, gx, gy, gm, gs, ey, hat⟩ := GR_acc hg hk
  have hlo := @aAcc_lo mo u h σ g
  have hold := @aAcc_old mo u h σ g
  obtain ⟨lc, bp, bv, rs, gt, pt, af, ow, tw, elc, ebp, ebv, ers, egt, ept, eaf, eow, etw, e⟩ := aAcc_eq mo u h σ g
  obtain ⟨i1, i2, i3, i4, i5, i6, ⟨i7, i8, i9, i10⟩, i11, i12⟩ := hI
  have lcb : lc < 3 := by
    rw [elc]; unfold aLoc; split
    · exact gx
    · exact Nat.mod_lt _ (by decide)
  have bpb : bp < 64 := by
    rw [ebp]; split
    · decide
    · exact (i5 _ (by omega)).2
  have bvb : bv < 64 := by
    rw [ebv]
    cases q : wtK (u 0)
    · simp
    · exact (i5 _ (by have := gs q; omega)).2
  have rsb : rs ≤ 6 := by rw [ers]; split <;> omega
  have gtb : gt < 4 := by rw [egt]; split; exact hgt; decide
  have ptb : pt < 4 := by
    rw [ept]; split
    · exact Nat.mod_lt _ (by decide)
    · decide
  have afb : af < 64 := by rw [eaf]; exact msk_lt64 _ _ i4
  have twb : tw < 64 := by rw [etw]; exact msk_lt64 _ _ i4
  have owb : ow ≤ 6 := by rw [eow]; exact Nat.le_trans (ownF_le _ _ _) i4
  have p2 : 2 ^ (σ 7 0) < 64 := Nat.pow_lt_pow_right (n := 6) (by decide) hn
  have e := e _ rfl
  have e7 : aAcc mo u h σ g 7 0 = σ 7 0 + 1 := aAcc_7
  refine ⟨i1, by rw [hlo (by decide) (by decide) (by decide) (by decide) (by decide) (by decide)]; exact i2, by rw [hlo (by decide) (by decide) (by decide) (by decide) (by decide) (by decide), e7]; omega, by rw [e7]; omega, fun q hq => ?_, ?_, ⟨by rw [hlo (by decide) (by decide) (by decide) (by decide) (by decide) (by decide)]; exact i7, ?_, by rw [hlo (by decide) (by decide) (by decide) (by decide) (by decide) (by decide)]; exact i9, by rw [hlo (by decide) (by decide) (by decide) (by decide) (by decide) (by decide)]; exact i10⟩, fun i hi => ?_, by rw [hlo (by decide) (by decide) (by decide) (by decide) (by decide) (by decide)]; exact i12⟩
  · have hq2 := i5 q hq
    rw [e]
    split
    · split <;> simpa [su_g] using hq2
    · by_cases z : q = 4 * h + u 1
      · subst z; split <;> simp [aSet, su_g] <;> omega
      · split <;> simpa [aSet, su_g, z] using hq2
  · rw [e7, e]
    split <;> split <;> simp [aSet, su_g] <;> omega
  · rw [e]
    have := nu_or64 _ i8 _ bpb
    split <;> split <;> simpa [aSet, su_g] using this
  · rw [e7] at hi
    by_cases z : i = σ 7 0
    · subst z
      rw [e]
      split <;> split <;> simp [aSet, su_g, AI] <;> exact ⟨i1, hk, lcb, gm, gtb, ptb, bpb, bvb, rsb, owb, twb, afb, i7⟩
    · have := i11 i (by omega)
      unfold AI at this ⊢
      simp only [hold (by decide : 30 ≤ 30) (show i < σ 7 0 by omega), hold (by decide : 30 ≤ 31) (show i < σ 7 0 by omega), hold (by decide : 30 ≤ 32) (show i < σ 7 0 by omega), hold (by decide : 30 ≤ 33) (show i < σ 7 0 by omega), hold (by decide : 30 ≤ 36) (show i < σ 7 0 by omega), hold (by decide : 30 ≤ 37) (show i < σ 7 0 by omega), hold (by decide : 30 ≤ 38) (show i < σ 7 0 by omega), hold (by decide : 30 ≤ 39) (show i < σ 7 0 by omega), hold (by decide : 30 ≤ 40) (show i < σ 7 0 by omega), hold (by decide : 30 ≤ 41) (show i < σ 7 0 by omega), hold (by decide : 30 ≤ 42) (show i < σ 7 0 by omega), hold (by decide : 30 ≤ 43) (show i < σ 7 0 by omega), hold (by decide : 30 ≤ 50) (show i < σ 7 0 by omega)]
      exact this
theorem aAcc_g {mo : Nat} {u : Nat → Nat} {h : Nat} {σ : AW} {g g' : Nat} (hr : rdK (u 0) = false) : aAcc mo u h σ g = aAcc mo u h σ g' := by
  unfold aAcc
  dsimp only
  rw [hr]
  rfl
theorem IN_step {mo : Nat} {u : Nat → Nat} {h : Nat} {σ : AW} {g : Nat} (hI : IN σ h) (hg : GR u) (hc : u 0 < 6 → σ 7 0 < 6 ∧ σ 5 0 < 6) (hgt : g < 4) : IN (aStep mo u h σ g).1 h := by
  have hh := hI.1
  have h5 := hI.2.2.2.2.1
  unfold aStep
  by_cases k10 : u 0 = 10
  · rw [if_pos k10]
    have : u 1 < 4 := by rcases hg with ⟨q, -⟩ | ⟨q, -⟩ | ⟨q, -⟩ | ⟨q, -⟩ | ⟨q, -⟩ | ⟨q, a, -⟩ <;> omega
    exact IN_12 hI (nu_or64 _ hI.2.2.2.2.2.2.1.1 _ (h5 _ (by omega)).2)
  rw [if_neg k10]
  by_cases k6 : u 0 = 6
  · rw [if_pos k6]; exact IN_fence hI
  rw [if_neg k6]
  by_cases k7 : u 0 = 7
  · rw [if_pos k7]
    have : u 1 < 4 := by rcases hg with ⟨q, -⟩ | ⟨q, -⟩ | ⟨q, -⟩ | ⟨q, a, -⟩ | ⟨q, -⟩ | ⟨q, -⟩ <;> omega
    exact IN_set hI this (by decide)
  rw [if_neg k7]
  by_cases k8 : u 0 = 8
  · rw [if_pos k8]
    have : u 1 < 4 ∧ u 2 < 4 ∧ u 3 < 4 := by rcases hg with ⟨q, -⟩ | ⟨q, -⟩ | ⟨q, -⟩ | ⟨q, -⟩ | ⟨q, a, b, c⟩ | ⟨q, -⟩ <;> omega
    exact IN_set hI this.1 (nu_or64 _ (h5 _ (by omega)).2 _ (h5 _ (by omega)).2)
  rw [if_neg k8]
  by_cases k9 : u 0 = 9
  · rw [if_pos k9]
    have : u 1 < 4 ∧ u 2 < 4 ∧ u 3 < 4 := by rcases hg with ⟨q, -⟩ | ⟨q, -⟩ | ⟨q, -⟩ | ⟨q, -⟩ | ⟨q, a, b, c⟩ | ⟨q, -⟩ <;> omega
    exact IN_set hI this.1 (nu_or64 _ (h5 _ (by omega)).2 _ (h5 _ (by omega)).2)
  rw [if_neg k9]
  have hk : u 0 < 6 := by rcases hg with ⟨q, -⟩ | ⟨q, -⟩ | ⟨q, -⟩ | ⟨q, -⟩ | ⟨q, -⟩ | ⟨q, -⟩ <;> omega
  obtain ⟨hn, hm⟩ := hc hk
  have g1 := (GR_acc hg hk).1
  by_cases k5 : u 0 = 5
  · rw [if_pos k5]
    split
    · split
      · exact IN_11 (IN_set (IN_ch hI hm) g1 (by decide)) (Nat.zero_le _)
      · exact IN_11 (IN_acc (IN_ch hI hm) hg hk (by simpa [aCh, su_g] using hn) (by decide)) (Nat.zero_le _)
    · exact IN_11 (IN_set hI g1 (by decide)) (Nat.zero_le _)
  rw [if_neg k5]
  split
  · exact IN_acc (IN_ch hI hm) hg hk (by simpa [aCh, su_g] using hn) hgt
  · exact IN_acc hI hg hk hn hgt
section SIM4
variable {mo K : Nat} {ch l0 : Nat → Nat} {S0 : St} {σ : AW} {S : St} {h : Nat}
theorem c_fails {r : Nat} {u : Nat → Nat} {Q : Int32 → St → Prop} (hR : RC mo K ch l0 S0 σ S) (hI : IN σ h) (hK : K ≤ 6) (hch : ∀ j, ch j < 4) (hu : ∀ j, j < 6 → S0.2.1 r j = dcK (u 0) j (u j)) (h5 : u 0 = 5) (hg : GR u) (hm : σ 5 0 < 6)
    (hQ1 : aMay σ h u = false → Q 1 S) (hQ2 : aMay σ h u = true → ∀ S', RC mo K ch l0 S0 (aCh σ 2) S' → Q (zI (ch (σ 5 0) == 1)) S') : pX5_fails r S Q := by
  have gr : u 3 < 3 ∧ u 4 < 5 := by rcases hg with ⟨q, -⟩ | ⟨q, a, b, c, d, e⟩ | ⟨q, -⟩ | ⟨q, -⟩ | ⟨q, -⟩ | ⟨q, -⟩ <;> omega
  have r3 : S.2.1 r 3 = nI (u 3) := by rw [hR.2.1, hu 3 (by decide), h5]; rfl
  have r4 : S.2.1 r 4 = nI (u 4) - 1 := by rw [hR.2.1, hu 4 (by decide), h5]; rfl
  have c11 := hR.2.2.2.1.2.2.2.2.1
  have hrs := hI.2.2.2.2.2.1
  have hn := hI.2.2.2.1
  have k55 : aMay σ h u = false → bX5_fails_55 Q S := fun q => ⟨Or.inr rfl, hQ1 q⟩
  have k38 : aMay σ h u = true → bX5_fails_38 Q (1 : Int32) S := by
    intro q
    refine ⟨fun z => absurd z (by decide), fun _ => ?_⟩
    refine c_choose (lim := 2) hR hK hm (fun S' hS' _ => ?_)
    have hq := hQ2 q S' hS'
    have hc := hch (σ 5 0)
    have e1 : nI (ch (σ 5 0)) = (1 : Int32) ↔ ch (σ 5 0) = 1 := nI_eq (b := 1) (by omega) (by decide)
    refine ⟨fun z => ?_, fun z => ?_⟩
    · have : (ch (σ 5 0) == 1) = false := by simp; exact fun w => z (e1.mpr w)
      rw [this] at hq
      exact ⟨Or.inl rfl, hq⟩
    · have : (ch (σ 5 0) == 1) = true := by simp; exact e1.mp z
      rw [this] at hq
      exact ⟨Or.inr rfl, hq⟩
  refine ⟨fun z => ?_, fun z => ⟨?_, fun i5 e5 => ?_⟩⟩
  · rw [c11] at z
    have h0 : σ 11 0 = 0 := (nu_m1 (by omega)).mp z
    have : aMay σ h u = false := by simp [aMay, h0]
    exact ⟨fun _ => k55 this, fun w => absurd rfl w⟩
  · rw [c11] at z ⊢
    have h0 : σ 11 0 ≠ 0 := fun q => z (by rw [q]; rfl)
    rw [nu_pred (by omega)]; exact nu_in (by omega) (by decide)
  · rw [c11] at z e5
    have h0 : σ 11 0 ≠ 0 := fun q => z (by rw [q]; rfl)
    rw [nu_pred (by omega), nu_cl (by omega)] at e5
    subst e5
    rw [r3]
    refine c_place hR hI gr.1 gr.2 r4 ?_
    have hA := hR.2.2.2.2.2.1 (σ 11 0 - 1) (by omega)
    have hB := hI.2.2.2.2.2.2.2.1 (σ 11 0 - 1) (by omega)
    have lb : aLoc σ h (u 3) (u 4) < 3 := by
      unfold aLoc; split
      · exact gr.1
      · exact Nat.mod_lt _ (by decide)
    have e1 : S.1 32 (σ 11 0 - 1) = nI (aLoc σ h (u 3) (u 4)) ↔ σ 32 (σ 11 0 - 1) = aLoc σ h (u 3) (u 4) := by rw [hA.2.2.1]; exact nI_eq (by have := hB.2.2.1; omega) (by omega)
    refine ⟨fun w => ?_, fun w => ?_⟩
    · have : aMay σ h u = false := by simp [aMay]; intro _; exact fun q => w (e1.mpr q)
      exact ⟨fun _ => k55 this, fun w2 => absurd rfl w2⟩
    · have : aMay σ h u = true := by simp [aMay]; exact ⟨h0, e1.mp w⟩
      exact k38 this
theorem c_step {r : Nat} {u : Nat → Nat} {Q : St → Prop} (hR : RC mo K ch l0 S0 σ S) (hI : IN σ h) (hK : K ≤ 6) (hmo : mo < 3) (hch : ∀ j, ch j < 4) (hu : ∀ j, j < 6 → S0.2.1 r j = dcK (u 0) j (u j)) (hg : GR u) (h10 : u 0 ≠ 10) (hc : u 0 < 6 → σ 7 0 < 6 ∧ σ 5 0 < 6)
    (hQ : ∀ S', RC mo K ch l0 S0 (aStep mo u h σ (ch (σ 5 0))).1 S' → Q S') : pX5_step r S Q := by
  have hh := hI.1
  have h5i := hI.2.2.2.2.1
  have row : ∀ T : St, T.2 = S0.2 → T.2.1 r 0 = nI (u 0) := by
    intro T eT
    rw [eT, hu 0 (by decide)]
    unfold dcK; rw [if_neg]
    unfold yK; split
    · omega
    · split <;> omega
  have hk11 : u 0 < 11 := by rcases hg with ⟨q, -⟩ | ⟨q, -⟩ | ⟨q, -⟩ | ⟨q, -⟩ | ⟨q, -⟩ | ⟨q, -⟩ <;> omega
  have hti : Int32.toInt (S.2.1 r 0) = (u 0 : Int) := by rw [row S hR.2.1]; exact nI_toInt (by omega)
  have hki : ∀ m, m < 11 → (S.2.1 r 0 = nI m ↔ u 0 = m) := fun m hm => by rw [row S hR.2.1]; exact nI_eq (by omega) (by omega)
  refine ⟨fun z => ?_, fun z => ?_, fun z => ?_, fun z => ?_, fun z => ?_, fun z => ?_⟩
  · rw [hti] at z
    have hk5 : u 0 < 5 := by omega
    obtain ⟨hn, hm⟩ := hc (by omega)
    refine c_acc hR hI hK hmo hch hu hg (by omega) hn (fun _ => hm) (fun S' hS' => hQ S' ?_)
    unfold aStep
    rw [if_neg (by omega), if_neg (by omega), if_neg (by omega), if_neg (by omega), if_neg (by omega), if_neg (by omega)]
    exact hS'
  · have k5 : u 0 = 5 := (hki 5 (by decide)).mp z
    obtain ⟨hn, hm⟩ := hc (by omega)
    have g1 := (GR_acc hg (by omega)).1
    have r1 : ∀ T : St, T.2 = S0.2 → T.2.1 r 1 = nI (u 1) := by intro T eT; rw [eT, hu 1 (by decide), k5]; rfl
    have hs : aStep mo u h σ (ch (σ 5 0)) = (if aMay σ h u then (if ch (σ 5 0) = 1 then (su (aSet (aCh σ 2) h (u 1) 1 0) 11 0 0, 0) else (su (aAcc mo u h (aCh σ 2) 0) 11 0 0, 0)) else (su (aSet σ h (u 1) 1 0) 11 0 0, 0)) := by
      unfold aStep
      rw [if_neg (by omega), if_neg (by omega), if_neg (by omega), if_neg (by omega), if_neg (by omega), if_pos k5]
    rw [hs] at hQ
    refine c_fails hR hI hK hch hu k5 hg hm (fun q => ?_) (fun q S' hS' => ?_)
    · rw [q] at hQ
      refine ⟨fun w => absurd w (by decide), fun _ => ?_⟩
      rw [r1 S hR.2.1]
      refine c_reg (v := 1) (c := 0) hR hI g1 (by decide) (fun S1 hS1 _ S2 e2 => hQ S2 ?_)
      rw [e2]; exact RC_11 (x := 0) hS1
    · rw [q] at hQ
      refine ⟨fun w => ?_, fun w => ?_⟩
      · have hc1 : ¬ ch (σ 5 0) = 1 := by have := (zI_0 _).mp w; simpa using this
        rw [if_pos rfl, if_neg hc1] at hQ
        have hr5 : rdK (u 0) = false := by rw [k5]; rfl
        refine c_acc hS' (IN_ch hI hm) hK hmo hch hu hg (by omega) (by simpa [aCh, su_g] using hn) (fun w2 => by rw [hr5] at w2; cases w2) (fun S1 hS1 S2 e2 => hQ S2 ?_)
        rw [hr5] at hS1
        rw [e2, aAcc_g hr5 (g' := ch ((aCh σ 2) 5 0))]
        exact RC_11 (x := 0) hS1
      · have hc1 : ch (σ 5 0) = 1 := by
          cases e : (ch (σ 5 0) == 1)
          · rw [e] at w; exact absurd rfl w
          · simpa using e
        rw [if_pos rfl, if_pos hc1] at hQ
        rw [r1 S' hS'.2.1]
        refine c_reg (v := 1) (c := 0) hS' (IN_ch hI hm) g1 (by decide) (fun S1 hS1 _ S2 e2 => hQ S2 ?_)
        rw [e2]; exact RC_11 (x := 0) hS1
  · have k : u 0 = 6 := (hki 6 (by decide)).mp z
    have gg : u 1 < 4 ∧ u 2 < 4 := by rcases hg with ⟨q, -⟩ | ⟨q, -⟩ | ⟨q, a, b⟩ | ⟨q, -⟩ | ⟨q, -⟩ | ⟨q, -⟩ <;> omega
    have r1 : S.2.1 r 1 = nI (u 1) := by rw [hR.2.1, hu 1 (by decide), k]; rfl
    have r2 : S.2.1 r 2 = nI (u 2) := by rw [hR.2.1, hu 2 (by decide), k]; rfl
    rw [r1, r2]
    refine c_fence hR hI gg.1 gg.2 (fun S' hS' => hQ S' ?_)
    unfold aStep
    rw [if_neg (by omega), if_pos k]
    exact hS'
  · have k : u 0 = 7 := (hki 7 (by decide)).mp z
    have gg : u 1 < 4 ∧ u 2 < 4 := by rcases hg with ⟨q, -⟩ | ⟨q, -⟩ | ⟨q, -⟩ | ⟨q, a, b⟩ | ⟨q, -⟩ | ⟨q, -⟩ <;> omega
    have r1 : S.2.1 r 1 = nI (u 1) := by rw [hR.2.1, hu 1 (by decide), k]; rfl
    have r2 : S.2.1 r 2 = nI (u 2) := by rw [hR.2.1, hu 2 (by decide), k]; rfl
    rw [r1, r2]
    refine c_reg (c := 0) hR hI gg.1 (by omega) (fun S' hS' _ => hQ S' ?_)
    unfold aStep
    rw [if_neg (by omega), if_neg (by omega), if_pos k]
    exact hS'
  · have k : u 0 = 8 := (hki 8 (by decide)).mp z
    have gg : u 1 < 4 ∧ u 2 < 4 ∧ u 3 < 4 := by rcases hg with ⟨q, -⟩ | ⟨q, -⟩ | ⟨q, -⟩ | ⟨q, -⟩ | ⟨q, a, b, c⟩ | ⟨q, -⟩ <;> omega
    have r1 : S.2.1 r 1 = nI (u 1) := by rw [hR.2.1, hu 1 (by decide), k]; rfl
    have r2 : S.2.1 r 2 = nI (u 2) := by rw [hR.2.1, hu 2 (by decide), k]; rfl
    have r3 : S.2.1 r 3 = nI (u 3) := by rw [hR.2.1, hu 3 (by decide), k]; rfl
    rw [r1, r2]
    have b2 := h5i (4 * h + u 2) (by omega)
    have b3 := h5i (4 * h + u 3) (by omega)
    refine c_val hR hI gg.2.1 ?_
    rw [r3]
    refine c_val hR hI gg.2.2 ?_
    rw [r2]
    refine c_car hR hI gg.2.1 ?_
    rw [r3]
    refine c_car hR hI gg.2.2 ?_
    rw [nI_add, nu_or]
    refine c_reg hR hI gg.1 (by omega) (fun S' hS' _ => hQ S' ?_)
    unfold aStep
    rw [if_neg (by omega), if_neg (by omega), if_neg (by omega), if_pos k]
    exact hS'
  · have k : u 0 = 9 := (hki 9 (by decide)).mp z
    have gg : u 1 < 4 ∧ u 2 < 4 ∧ u 3 < 4 := by rcases hg with ⟨q, -⟩ | ⟨q, -⟩ | ⟨q, -⟩ | ⟨q, -⟩ | ⟨q, a, b, c⟩ | ⟨q, -⟩ <;> omega
    have r1 : S.2.1 r 1 = nI (u 1) := by rw [hR.2.1, hu 1 (by decide), k]; rfl
    have r2 : S.2.1 r 2 = nI (u 2) := by rw [hR.2.1, hu 2 (by decide), k]; rfl
    have r3 : S.2.1 r 3 = nI (u 3) := by rw [hR.2.1, hu 3 (by decide), k]; rfl
    rw [r1, r2]
    have b2 := h5i (4 * h + u 2) (by omega)
    have b3 := h5i (4 * h + u 3) (by omega)
    refine c_val hR hI gg.2.1 ?_
    rw [r3]
    refine c_val hR hI gg.2.2 ?_
    rw [r2]
    refine c_car hR hI gg.2.1 ?_
    rw [r3]
    refine c_car hR hI gg.2.2 ?_
    rw [nu_xor, nu_or]
    have xb : σ 24 (4 * h + u 2) ^^^ σ 24 (4 * h + u 3) < 2 ^ 31 := Nat.lt_of_lt_of_le (Nat.xor_lt_two_pow (n := 2) b2.1 b3.1) (by decide)
    refine c_reg hR hI gg.1 xb (fun S' hS' _ => hQ S' ?_)
    unfold aStep
    rw [if_neg (by omega), if_neg (by omega), if_neg (by omega), if_neg (by omega), if_pos k]
    exact hS'
end SIM4
