/-! choices: what of a way hangs on the first of them; their limits -/
section ODO
variable {mo : Nat} {P : Nat → Nat → Nat → Nat} {L : Nat → Nat}
theorem hart_ind {I : AW → Prop} {ch : Nat → Nat} {h : Nat} (hs : ∀ i σ g, I σ → I (aStep mo (P h i) h σ g).1) : ∀ (f i : Nat) (σ : AW), I σ → I (aHart mo P L ch h f i σ)
  | 0, _, _, hI => hI
  | f + 1, i, σ, hI => by
    rw [aHart]
    split
    · exact hart_ind hs f _ _ (hs i σ _ hI)
    · exact hI
theorem way_ind {I : AW → Prop} {ch : Nat → Nat} (h0 : I (fun _ _ => 0)) (hb : ∀ σ h, I σ → I (aBeg σ h)) (hs : ∀ h i σ g, I σ → I (aStep mo (P h i) h σ g).1) : I (aWay mo P L ch) := by
  have one : ∀ σ h, I σ → I (aHt mo P L ch σ h) := fun σ h hI => hart_ind (hs h) 7 0 _ (hb σ h hI)
  exact one _ 3 (one _ 2 (one _ 1 (one _ 0 h0)))
theorem aBeg_f {σ : AW} {h v i : Nat} (hv : v < 9 ∨ 15 < v) : aBeg σ h v i = σ v i := by
  unfold aBeg
  simp only [su_g]
  repeat rw [if_neg (by omega)]
theorem aSet_f {σ : AW} {h r c x v i : Nat} (hv : v ≠ 24 ∧ v ≠ 25) : aSet σ h r x c v i = σ v i := by
  unfold aSet
  simp only [su_g]
  repeat rw [if_neg (by omega)]
theorem aFence_f {σ : AW} {h f1 f2 v i : Nat} (hv : v < 14 ∨ 55 < v) : aFence σ h f1 f2 v i = σ v i := by
  unfold aFence
  simp only [su_g]
  repeat rw [if_neg (by omega)]
theorem su_f {σ : AW} {w j x v i : Nat} (hv : v ≠ w) : su σ w j x v i = σ v i := by rw [su_g, if_neg (fun q => hv q.1)]
theorem aAcc_f {u : Nat → Nat} {h g : Nat} {σ : AW} {v i : Nat} (hv : v = 5 ∨ v = 56) : aAcc mo u h σ g v i = σ v i := by
  rcases hv with rfl | rfl
  · exact aAcc_lo (by decide) (by decide) (by decide) (by decide) (by decide) (by decide)
  · exact aAcc_lo (by decide) (by decide) (by decide) (by decide) (by decide) (by decide)
/-- a step chooses, or not -/
theorem step_use {u : Nat → Nat} {h : Nat} {σ : AW} :
    (aUse u h σ = true ∧ ∃ lm, (lm = 2 ∨ lm = 4) ∧ ∀ g v i, (v = 5 ∨ v = 56) → (aStep mo u h σ g).1 v i = aCh σ lm v i) ∨
    (aUse u h σ = false ∧ ∀ g, aStep mo u h σ g = aStep mo u h σ 0 ∧ ∀ v i, (v = 5 ∨ v = 56) → (aStep mo u h σ g).1 v i = σ v i) := by
  by_cases k10 : u 0 = 10
  · right
    refine ⟨by unfold aUse; rw [k10]; rfl, fun g => ⟨by unfold aStep; rw [if_pos k10, if_pos k10], fun v i hv => ?_⟩⟩
    unfold aStep; rw [if_pos k10]; exact su_f (by omega)
  by_cases k6 : u 0 = 6
  · right
    refine ⟨by unfold aUse; rw [k6]; rfl, fun g => ⟨by unfold aStep; rw [if_neg k10, if_pos k6, if_neg k10, if_pos k6], fun v i hv => ?_⟩⟩
    unfold aStep; rw [if_neg k10, if_pos k6]; exact aFence_f (by omega)
  by_cases k7 : u 0 = 7
  · right
    refine ⟨by unfold aUse; rw [k7]; rfl, fun g => ⟨by unfold aStep; rw [if_neg k10, if_neg k6, if_pos k7, if_neg k10, if_neg k6, if_pos k7], fun v i hv => ?_⟩⟩
    unfold aStep; rw [if_neg k10, if_neg k6, if_pos k7]; exact aSet_f (by omega)
  by_cases k8 : u 0 = 8
  · right
    refine ⟨by unfold aUse; rw [k8]; rfl, fun g => ⟨by unfold aStep; rw [if_neg k10, if_neg k6, if_neg k7, if_pos k8, if_neg k10, if_neg k6, if_neg k7, if_pos k8], fun v i hv => ?_⟩⟩
    unfold aStep; rw [if_neg k10, if_neg k6, if_neg k7, if_pos k8]; exact aSet_f (by omega)
  by_cases k9 : u 0 = 9
  · right
    refine ⟨by unfold aUse; rw [k9]; rfl, fun g => ⟨by unfold aStep; rw [if_neg k10, if_neg k6, if_neg k7, if_neg k8, if_pos k9, if_neg k10, if_neg k6, if_neg k7, if_neg k8, if_pos k9], fun v i hv => ?_⟩⟩
    unfold aStep; rw [if_neg k10, if_neg k6, if_neg k7, if_neg k8, if_pos k9]; exact aSet_f (by omega)
  by_cases k5 : u 0 = 5
  · by_cases hm : aMay σ h u = true
    · left
      refine ⟨by unfold aUse; rw [k5, hm]; rfl, 2, Or.inl rfl, fun g v i hv => ?_⟩
      unfold aStep
      rw [if_neg k10, if_neg k6, if_neg k7, if_neg k8, if_neg k9, if_pos k5, if_pos hm]
      split
      · show su _ 11 0 0 v i = _
        rw [su_f (by omega), aSet_f (by omega)]
      · show su _ 11 0 0 v i = _
        rw [su_f (by omega), aAcc_f hv]
    · right
      refine ⟨?_, fun g => ⟨?_, fun v i hv => ?_⟩⟩
      · unfold aUse
        rw [k5, Bool.eq_false_iff.mpr hm]; rfl
      · unfold aStep
        rw [if_neg k10, if_neg k6, if_neg k7, if_neg k8, if_neg k9, if_pos k5, if_neg hm, if_neg k10, if_neg k6, if_neg k7, if_neg k8, if_neg k9, if_pos k5, if_neg hm]
      · unfold aStep
        rw [if_neg k10, if_neg k6, if_neg k7, if_neg k8, if_neg k9, if_pos k5, if_neg hm]
        show su _ 11 0 0 v i = _
        rw [su_f (by omega), aSet_f (by omega)]
  by_cases hr : rdK (u 0) = true
  · left
    refine ⟨by unfold aUse; rw [hr]; rfl, 4, Or.inr rfl, fun g v i hv => ?_⟩
    unfold aStep
    rw [if_neg k10, if_neg k6, if_neg k7, if_neg k8, if_neg k9, if_neg k5, if_pos hr]
    exact aAcc_f hv
  · right
    have hr' := Bool.eq_false_iff.mpr hr
    refine ⟨?_, fun g => ⟨?_, fun v i hv => ?_⟩⟩
    · unfold aUse
      rw [hr']
      have : (u 0 == 5) = false := by simpa using k5
      rw [this]; rfl
    · unfold aStep
      rw [if_neg k10, if_neg k6, if_neg k7, if_neg k8, if_neg k9, if_neg k5, if_neg hr, if_neg k10, if_neg k6, if_neg k7, if_neg k8, if_neg k9, if_neg k5, aAcc_g hr' (g' := 0)]
    · unfold aStep
      rw [if_neg k10, if_neg k6, if_neg k7, if_neg k8, if_neg k9, if_neg k5, if_neg hr]
      exact aAcc_f hv
theorem aCh_5 {σ : AW} {lm : Nat} : aCh σ lm 5 0 = σ 5 0 + 1 := by unfold aCh; rw [su_g, if_pos ⟨rfl, rfl⟩]
theorem aCh_56 {σ : AW} {lm j : Nat} : aCh σ lm 56 j = if j = σ 5 0 then lm else σ 56 j := by
  unfold aCh
  rw [su_f (by decide), su_g]
  by_cases e : j = σ 5 0
  · rw [if_pos ⟨rfl, e⟩, if_pos e]
  · rw [if_neg (fun q => e q.2), if_neg e]
/-- the limits that a way set -/
def LM (σ : AW) : Prop := ∀ j, j < σ 5 0 → 2 ≤ σ 56 j ∧ σ 56 j ≤ 4
theorem way_LM {ch : Nat → Nat} : LM (aWay mo P L ch) := by
  refine way_ind (I := LM) (fun j h => absurd h (Nat.not_lt_zero _)) (fun σ h hI j hj => ?_) (fun h i σ g hI j hj => ?_)
  · rw [aBeg_f (by decide)] at hj ⊢; exact hI j hj
  · rcases step_use (mo := mo) (u := P h i) (h := h) (σ := σ) with ⟨-, lm, hl, hs⟩ | ⟨-, hs⟩
    · rw [hs g 5 0 (Or.inl rfl), aCh_5] at hj
      rw [hs g 56 j (Or.inr rfl), aCh_56]
      by_cases e : j = σ 5 0
      · rw [if_pos e]; omega
      · rw [if_neg e]; exact hI j (by omega)
    · rw [(hs g).2 5 0 (Or.inl rfl)] at hj
      rw [(hs g).2 56 j (Or.inr rfl)]
      exact hI j hj
theorem hart_mono {ch : Nat → Nat} {h n : Nat} : ∀ (f i : Nat) (σ : AW), n ≤ σ 5 0 → n ≤ aHart mo P L ch h f i σ 5 0 :=
  fun f i σ hn => hart_ind (I := fun σ => n ≤ σ 5 0) (fun i σ g hI => by
    rcases step_use (mo := mo) (u := P h i) (h := h) (σ := σ) with ⟨-, lm, hl, hs⟩ | ⟨-, hs⟩
    · rw [hs g 5 0 (Or.inl rfl), aCh_5]; omega
    · rw [(hs g).2 5 0 (Or.inl rfl)]; exact hI) f i σ hn
theorem hart_pre {ch ch' : Nat → Nat} {h J : Nat} (hJ : ∀ j, j < J → ch j = ch' j) : ∀ (f i : Nat) (σ : AW), σ 5 0 ≤ J → (aHart mo P L ch h f i σ = aHart mo P L ch' h f i σ ∧ aHart mo P L ch h f i σ 5 0 ≤ J) ∨ (J < aHart mo P L ch h f i σ 5 0 ∧ J < aHart mo P L ch' h f i σ 5 0)
  | 0, _, _, hσ => Or.inl ⟨rfl, hσ⟩
  | f + 1, i, σ, hσ => by
    rw [aHart, aHart]
    by_cases hi : i < L h
    · rw [if_pos hi, if_pos hi]
      rcases step_use (mo := mo) (u := P h i) (h := h) (σ := σ) with ⟨-, lm, hl, hs⟩ | ⟨-, hs⟩
      · by_cases e : σ 5 0 < J
        · rw [← hJ _ e]
          exact hart_pre hJ f _ _ (by rw [hs _ 5 0 (Or.inl rfl), aCh_5]; omega)
        · right
          exact ⟨hart_mono f _ _ (by rw [hs _ 5 0 (Or.inl rfl), aCh_5]; omega), hart_mono f _ _ (by rw [hs _ 5 0 (Or.inl rfl), aCh_5]; omega)⟩
      · rw [(hs (ch (σ 5 0))).1, (hs (ch' (σ 5 0))).1]
        exact hart_pre hJ f _ _ (by rw [(hs 0).2 5 0 (Or.inl rfl)]; exact hσ)
    · rw [if_neg hi, if_neg hi]; exact Or.inl ⟨rfl, hσ⟩
theorem way_pre {ch ch' : Nat → Nat} {J : Nat} (hJ : ∀ j, j < J → ch j = ch' j) (hm : J < aWay mo P L ch 5 0) : J < aWay mo P L ch' 5 0 := by
  have key : ∀ h, (aW0 mo P L ch h = aW0 mo P L ch' h ∧ aW0 mo P L ch h 5 0 ≤ J) ∨ (J < aW0 mo P L ch h 5 0 ∧ J < aW0 mo P L ch' h 5 0) := by
    intro h
    induction h with
    | zero => exact Or.inl ⟨rfl, Nat.zero_le _⟩
    | succ h ih =>
      rcases ih with ⟨e, l⟩ | ⟨l1, l2⟩
      · have := hart_pre (mo := mo) (P := P) (L := L) (h := h) hJ 7 0 (aBeg (aW0 mo P L ch h) h) (by rw [aBeg_f (by decide)]; exact l)
        show (aHart mo P L ch h 7 0 (aBeg (aW0 mo P L ch h) h) = aHart mo P L ch' h 7 0 (aBeg (aW0 mo P L ch' h) h) ∧ _) ∨ (_ ∧ J < aHart mo P L ch' h 7 0 (aBeg (aW0 mo P L ch' h) h) 5 0)
        rw [← e]
        exact this
      · right
        exact ⟨hart_mono (n := J + 1) 7 0 _ (by rw [aBeg_f (by decide)]; exact l1), hart_mono (n := J + 1) 7 0 _ (by rw [aBeg_f (by decide)]; exact l2)⟩
  have := key 4
  rw [aW0_4, aW0_4] at this
  omega
end ODO
/-- the last choice that can go on, plus 1 -/
def lst (ch lm : Nat → Nat) : Nat → Nat
  | 0 => 0
  | m + 1 => if ch m + 1 < lm m then m + 1 else lst ch lm m
theorem lst_le (ch lm : Nat → Nat) : ∀ m, lst ch lm m ≤ m
  | 0 => Nat.le_refl _
  | m + 1 => by
    rw [lst]
    split
    · exact Nat.le_refl _
    · have := lst_le ch lm m; omega
theorem lst_s (ch lm : Nat → Nat) : ∀ m, lst ch lm m ≠ 0 → ch (lst ch lm m - 1) + 1 < lm (lst ch lm m - 1)
  | 0, h => absurd rfl h
  | m + 1, h => by
    rw [lst] at h ⊢
    by_cases c : ch m + 1 < lm m
    · rw [if_pos c]; exact c
    · rw [if_neg c] at h ⊢; exact lst_s ch lm m h
def nch (ch : Nat → Nat) (la : Nat) : Nat → Nat := fun j => if j + 1 < la then ch j else if j + 1 = la then ch j + 1 else 0
def lmx (K : Nat) (l0 : Nat → Nat) (σ : AW) : Nat → Nat := fun j => if j < K then l0 j else σ 56 j
/-- what is known between two ways -/
def OI (mo : Nat) (P : Nat → Nat → Nat → Nat) (L : Nat → Nat) (K : Nat) (ch l0 : Nat → Nat) : Prop :=
  K ≤ 6 ∧ (∀ j, ch j < 4) ∧ (∀ j, K ≤ j → ch j = 0) ∧ (∀ j, j < K → ch j < l0 j ∧ l0 j ≤ 4) ∧ K ≤ aWay mo P L ch 5 0
theorem OI_0 {mo : Nat} {P : Nat → Nat → Nat → Nat} {L : Nat → Nat} {l0 : Nat → Nat} : OI mo P L 0 (fun _ => 0) l0 :=
  ⟨by decide, fun _ => (by decide : 0 < 4), fun _ _ => rfl, fun j h => absurd h (Nat.not_lt_zero _), Nat.zero_le _⟩
theorem OI_lm {mo : Nat} {P : Nat → Nat → Nat → Nat} {L : Nat → Nat} {K : Nat} {ch l0 : Nat → Nat} (h : OI mo P L K ch l0) {j : Nat} (hj : j < aWay mo P L ch 5 0) : ch j < lmx K l0 (aWay mo P L ch) j ∧ lmx K l0 (aWay mo P L ch) j ≤ 4 := by
  unfold lmx
  by_cases c : j < K
  · rw [if_pos c]; exact h.2.2.2.1 j c
  · rw [if_neg c]
    have := way_LM (mo := mo) (P := P) (L := L) (ch := ch) j hj
    rw [h.2.2.1 j (by omega)]; omega
theorem OI_next {mo : Nat} {P : Nat → Nat → Nat → Nat} {L : Nat → Nat} {K : Nat} {ch l0 : Nat → Nat} (h : OI mo P L K ch l0) (h6 : aWay mo P L ch 5 0 ≤ 6) {la : Nat} (ela : la = lst ch (lmx K l0 (aWay mo P L ch)) (aWay mo P L ch 5 0)) (h0 : la ≠ 0) : OI mo P L la (nch ch la) (lmx K l0 (aWay mo P L ch)) := by
  have le := lst_le ch (lmx K l0 (aWay mo P L ch)) (aWay mo P L ch 5 0)
  have ss := lst_s ch (lmx K l0 (aWay mo P L ch)) (aWay mo P L ch 5 0)
  rw [← ela] at le ss
  have ss := ss h0
  have lm4 := (OI_lm h (j := la - 1) (by omega)).2
  refine ⟨by omega, fun j => ?_, fun j hj => ?_, fun j hj => ?_, ?_⟩
  · unfold nch
    split
    · exact h.2.1 j
    · split
      · rename_i e
        rw [show j = la - 1 by omega]; omega
      · decide
  · unfold nch; rw [if_neg (by omega), if_neg (by omega)]
  · obtain ⟨q1, q2⟩ := OI_lm h (j := j) (by omega)
    refine ⟨?_, q2⟩
    unfold nch
    by_cases e : j + 1 < la
    · rw [if_pos e]; exact q1
    · rw [if_neg e, if_pos (by omega), show j = la - 1 by omega]; exact ss
  · have := way_pre (mo := mo) (P := P) (L := L) (ch := ch) (ch' := nch ch la) (J := la - 1) (fun j hj => by unfold nch; rw [if_pos (by omega)]) (by omega)
    omega
/-- the rank of choices -/
def rkF (ch : Nat → Nat) : Nat → Nat
  | 0 => 0
  | m + 1 => 4 * rkF ch m + ch m
def rk (ch : Nat → Nat) : Nat := rkF ch 6
theorem rkF_c {ch ch' : Nat → Nat} : ∀ m, (∀ j, j < m → ch j = ch' j) → rkF ch m = rkF ch' m
  | 0, _ => rfl
  | m + 1, h => by rw [rkF, rkF, rkF_c m (fun j hj => h j (by omega)), h m (by omega)]
theorem rkF_lt {ch : Nat → Nat} (h : ∀ j, ch j < 4) : ∀ m, rkF ch m < 4 ^ m
  | 0 => by show 0 < 1; decide
  | m + 1 => by
    have := rkF_lt h m
    have := h m
    rw [rkF, Nat.pow_succ]; omega
theorem rk_lt {ch : Nat → Nat} (h : ∀ j, ch j < 4) : rk ch < 4096 := rkF_lt h 6
theorem rkF_up {ch ch' : Nat → Nat} (h : ∀ j, ch j < 4) : ∀ m d, rkF ch m < rkF ch' m → rkF ch (m + d) < rkF ch' (m + d)
  | _, 0, h1 => h1
  | m, d + 1, h1 => by
    have := rkF_up h m d h1
    have := h (m + d)
    show rkF ch (m + d + 1) < rkF ch' (m + d + 1)
    rw [rkF, rkF]; omega
theorem rk_next {ch : Nat → Nat} {la : Nat} (h : ∀ j, ch j < 4) (h0 : la ≠ 0) (h6 : la ≤ 6) : rk ch < rk (nch ch la) := by
  have e1 : rkF ch (la - 1) = rkF (nch ch la) (la - 1) := rkF_c _ (fun j hj => by unfold nch; rw [if_pos (by omega)])
  have e2 : rkF ch (la - 1 + 1) < rkF (nch ch la) (la - 1 + 1) := by
    rw [rkF, rkF, ← e1]
    unfold nch
    rw [if_neg (by omega), if_pos (by omega)]; omega
  have := rkF_up h (la - 1 + 1) (6 - la) e2
  rw [show la - 1 + 1 + (6 - la) = 6 by omega] at this
  exact this
