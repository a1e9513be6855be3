/-! the reference: fences, what must stand before what -/
def FB (σ : AW) : Prop := ∀ f, f < σ 51 0 → σ 54 f < 4 ∧ σ 55 f < 4
theorem FB_c {σ τ : AW} (e51 : τ 51 0 = σ 51 0) (e54 : ∀ f, τ 54 f = σ 54 f) (e55 : ∀ f, τ 55 f = σ 55 f) (h : FB σ) : FB τ := by
  intro f hf
  rw [e51] at hf
  rw [e54, e55]; exact h f hf
theorem FB_step {mo : Nat} {u : Nat → Nat} {h : Nat} {σ : AW} {g : Nat} (hg : GR u) (hB : FB σ) : FB (aStep mo u h σ g).1 := by
  have acc : ∀ (τ : AW) (g : Nat), FB τ → FB (aAcc mo u h τ g) := fun τ g hτ => FB_c (aAcc_lo (by decide) (by decide) (by decide) (by decide) (by decide) (by decide)) (fun f => aAcc_lo (by decide) (by decide) (by decide) (by decide) (by decide) (by decide)) (fun f => aAcc_lo (by decide) (by decide) (by decide) (by decide) (by decide) (by decide)) hτ
  have set : ∀ (τ : AW) (r v c : Nat), FB τ → FB (aSet τ h r v c) := fun τ r v c hτ => FB_c (by simp [aSet, su_g]) (fun f => by simp [aSet, su_g]) (fun f => by simp [aSet, su_g]) hτ
  have cho : ∀ (τ : AW) (l : Nat), FB τ → FB (aCh τ l) := fun τ l hτ => FB_c (by simp [aCh, su_g]) (fun f => by simp [aCh, su_g]) (fun f => by simp [aCh, su_g]) hτ
  have one : ∀ (τ : AW) (v x : Nat), v < 51 → FB τ → FB (su τ v 0 x) := fun τ v x hv hτ => FB_c (by rw [su_g, if_neg (by omega)]) (fun f => by rw [su_g, if_neg (by omega)]) (fun f => by rw [su_g, if_neg (by omega)]) hτ
  unfold aStep
  by_cases k10 : u 0 = 10
  · rw [if_pos k10]; exact one _ _ _ (by decide) hB
  rw [if_neg k10]
  by_cases k6 : u 0 = 6
  · rw [if_pos k6]
    have g12 : u 1 < 4 ∧ u 2 < 4 := by rcases hg with ⟨q, -⟩ | ⟨q, -⟩ | ⟨q, a, b⟩ | ⟨q, -⟩ | ⟨q, -⟩ | ⟨q, -⟩ <;> omega
    intro f hf
    have e51 : aFence σ h (u 1) (u 2) 51 0 = σ 51 0 + 1 := by unfold aFence; simp [su_g]
    have e54 : aFence σ h (u 1) (u 2) 54 f = if f = σ 51 0 then u 1 else σ 54 f := by unfold aFence; simp [su_g]
    have e55 : aFence σ h (u 1) (u 2) 55 f = if f = σ 51 0 then u 2 else σ 55 f := by unfold aFence; simp [su_g]
    show aFence σ h (u 1) (u 2) 54 f < 4 ∧ aFence σ h (u 1) (u 2) 55 f < 4
    have hf2 : f < σ 51 0 + 1 := by rw [← e51]; exact hf
    rw [e54, e55]
    by_cases z : f = σ 51 0
    · rw [if_pos z, if_pos z]; exact g12
    · rw [if_neg z, if_neg z]; exact hB f (by omega)
  rw [if_neg k6]
  by_cases k7 : u 0 = 7
  · rw [if_pos k7]; exact set _ _ _ _ hB
  rw [if_neg k7]
  by_cases k8 : u 0 = 8
  · rw [if_pos k8]; exact set _ _ _ _ hB
  rw [if_neg k8]
  by_cases k9 : u 0 = 9
  · rw [if_pos k9]; exact set _ _ _ _ hB
  rw [if_neg k9]
  by_cases k5 : u 0 = 5
  · rw [if_pos k5]
    split
    · split
      · exact one _ _ _ (by decide) (set _ _ _ _ (cho _ _ hB))
      · exact one _ _ _ (by decide) (acc _ _ (cho _ _ hB))
    · exact one _ _ _ (by decide) (set _ _ _ _ hB)
  rw [if_neg k5]
  split
  · exact acc _ _ (cho _ _ hB)
  · exact acc _ _ hB
theorem hart_FB {mo : Nat} {P : Nat → Nat → Nat → Nat} {L ch : Nat → Nat} {h : Nat} (hL : L h ≤ 6) (hP : ∀ i, i < L h → GR (P h i)) : ∀ (f i : Nat) (σ : AW), FB σ → σ 51 0 ≤ 6 * h + min i 6 → FB (aHart mo P L ch h f i σ) ∧ aHart mo P L ch h f i σ 51 0 ≤ 6 * (h + 1)
  | 0, i, σ, hB, h51 => ⟨hB, by show σ 51 0 ≤ _; omega⟩
  | f + 1, i, σ, hB, h51 => by
    rw [aHart]
    by_cases hi : i < L h
    · rw [if_pos hi]
      have q51 := step_51 (mo := mo) (u := P h i) (h := h) (σ := σ) (g := ch (σ 5 0))
      exact hart_FB hL hP f _ _ (FB_step (hP i hi) hB) (by omega)
    · rw [if_neg hi]; exact ⟨hB, by omega⟩
/-- what is known of a way's fences -/
def FS (σ : AW) : Prop := σ 51 0 ≤ 24 ∧ ∀ f, f < σ 51 0 → σ 52 f < 4 ∧ σ 53 f ≤ 6 ∧ σ 54 f < 4 ∧ σ 55 f < 4
theorem way_FS {mo : Nat} {ch : Nat → Nat} {P : Nat → Nat → Nat → Nat} {L : Nat → Nat} (hP : ∀ h, h < 4 → ∀ i, i < L h → GR (P h i)) (hL : ∀ h, h < 4 → L h ≤ 6) (ht : acR P L 0 ≤ 6) (hch : ∀ j, ch j < 4) : FS (aWay mo P L ch) := by
  have fb : ∀ h, h ≤ 4 → FB (aW0 mo P L ch h) ∧ aW0 mo P L ch h 51 0 ≤ 6 * h := by
    intro h
    induction h with
    | zero => intro _; exact ⟨fun f hf => absurd hf (Nat.not_lt_zero _), Nat.zero_le _⟩
    | succ h ih =>
      intro hh
      obtain ⟨a, b⟩ := ih (by omega)
      have e : ∀ v i, (v < 9 ∨ 15 < v) → aBeg (aW0 mo P L ch h) h v i = aW0 mo P L ch h v i := by
        intro v i c
        unfold aBeg
        simp only [su_g]
        repeat rw [if_neg (by omega)]
      exact hart_FB (hL h (by omega)) (hP h (by omega)) 7 0 _ (FB_c (e 51 0 (by decide)) (fun f => e 54 f (by decide)) (fun f => e 55 f (by decide)) a) (by rw [e 51 0 (by decide)]; omega)
  have h2 := aW0_HB (mo := mo) hP ht hch 4 (Nat.le_refl _)
  have h1 := aW0_ok (mo := mo) hP ht hch 4 (Nat.le_refl _)
  obtain ⟨a, b⟩ := fb 4 (Nat.le_refl _)
  rw [aW0_4] at h1 h2 a b
  refine ⟨by omega, fun f hf => ?_⟩
  have c := h2.2.2.1 f hf
  have d := h1.1.1
  exact ⟨c.1, by omega, (a f hf).1, (a f hf).2⟩
/-- the reference's row of fences -/
def MFE (σ : AW) (T : St) : Prop := T.1 24 0 = nI (σ 51 0) ∧ ∀ f, f < σ 51 0 → T.1 25 f = nI (σ 52 f) ∧ T.1 26 f = nI (σ 53 f) ∧ T.1 27 f = nI (σ 54 f) ∧ T.1 28 f = nI (σ 55 f)
section MMS
variable {mo : Nat} {σ : AW} {T : St}
theorem m_needs {M i : Nat} {Q : Int32 → Prop} (hM : M < 64) (hi : i < 6) (hQ : Q (zI (M.testBit i))) : pX7_needs (nI M) (nI i) Q := by
  have h := nu_bit M hM i hi
  have h1 : ∀ M, M < 64 → ∀ i, i < 6 → (((nI M >>> (nI i &&& 31)) &&& (1 : Int32)) = 1 ↔ M.testBit i = true) := by decide +kernel
  have h1 := h1 M hM i hi
  refine ⟨fun z => ?_, fun z => ?_⟩
  · have : M.testBit i = false := by
      cases e : M.testBit i
      · rfl
      · exact absurd (h1.mpr e) z
    rw [this] at hQ; exact ⟨Or.inl rfl, hQ⟩
  · rw [h1.mp z] at hQ; exact ⟨Or.inr rfl, hQ⟩
theorem m_isFenced {a b : Nat} {Q : Int32 → St → Prop} (hW : WS mo σ) (hS : FS σ) (hF : ∀ i, i < σ 7 0 → MF σ T i) (hE : MFE σ T) (ha : a < σ 7 0) (hb : b < σ 7 0) (hT : fenB σ a b → Q 1 T) (hN : ¬ fenB σ a b → Q 0 T) : pX7_isFenced (nI a) (nI b) T Q := by
  have h6 := hW.1.1
  have hia : vp_in (nI a) 6 := nu_in (by omega) (by decide)
  have loop : ∀ c f, f + c = σ 51 0 → (∀ m, m < f → ¬ (σ 52 m = σ 30 a ∧ a < σ 53 m ∧ σ 53 m ≤ b ∧ fnP σ (σ 54 m) a = true ∧ fnP σ (σ 55 m) b = true)) → itr (F := Int32 → Int32 → Int32 → St → Prop) (fun _ _ _ _ => False) (fun k2 x1 x2 x3 S => bX7_isFenced_2 k2 Q x1 x2 x3 S) (c + 1) (nI a) (nI b) (nI f) T := by
    intro c
    induction c with
    | zero =>
      intro f hf hall
      have h24 := hS.1
      refine ⟨fun _ => hN ?_, fun z => absurd (by rw [hE.1]; exact nI_le (by omega) (by omega)) z⟩
      rintro ⟨m, m1, m2⟩
      exact hall m (by omega) m2
    | succ c ih =>
      intro f hf hall
      have h24 := hS.1
      have hfn : f < σ 51 0 := by omega
      obtain ⟨s52, s53, s54, s55⟩ := hS.2 f hfn
      obtain ⟨t25, t26, t27, t28⟩ := hE.2 f hfn
      have hif : vp_in (nI f) 24 := nu_in (by omega) (by decide)
      have hcf : (nI f).toNatClampNeg = f := nu_cl (by omega)
      have hca : (nI a).toNatClampNeg = a := nu_cl (by omega)
      have next : ¬ (σ 52 f = σ 30 a ∧ a < σ 53 f ∧ σ 53 f ≤ b ∧ fnP σ (σ 54 f) a = true ∧ fnP σ (σ 55 f) b = true) → bX7_isFenced_159 (itr (F := Int32 → Int32 → Int32 → St → Prop) (fun _ _ _ _ => False) (fun k2 x1 x2 x3 S => bX7_isFenced_2 k2 Q x1 x2 x3 S) (c + 1)) Q (nI a) (nI b) (nI f) T := by
        intro hn y1 e1
        rw [e1, nI_1]
        refine ih (f + 1) (by omega) (fun m hm => ?_)
        by_cases z : m = f
        · subst z; exact hn
        · exact hall m (by omega)
      -- the three together
      have k140 : ∀ (x4 x5 t0 : Int32) (B1 B2 B3 : Bool), x4 = zI B1 → x5 = zI B2 → t0 = zI B3 → (B1 = true ↔ (σ 52 f = σ 30 a ∧ a < σ 53 f ∧ σ 53 f ≤ b)) → (B2 = fnP σ (σ 54 f) a) → (B3 = fnP σ (σ 55 f) b) → bX7_isFenced_140 (itr (F := Int32 → Int32 → Int32 → St → Prop) (fun _ _ _ _ => False) (fun k2 x1 x2 x3 S => bX7_isFenced_2 k2 Q x1 x2 x3 S) (c + 1)) Q (nI a) (nI b) (nI f) x4 x5 t0 T := by
        intro x4 x5 t0 B1 B2 B3 e1 e2 e3 h1 h2 h3
        rw [e1, e2, e3]
        refine ⟨fun z => next (fun q => ?_), fun z => ⟨fun z2 => next (fun q => ?_), fun z2 => ⟨fun z3 => next (fun q => ?_), fun z3 => hT ?_⟩⟩⟩
        · have := h1.mpr ⟨q.1, q.2.1, q.2.2.1⟩
          rw [this] at z; exact absurd z (by decide)
        · rw [h2, q.2.2.2.1] at z2; exact absurd z2 (by decide)
        · rw [h3, q.2.2.2.2] at z3; exact absurd z3 (by decide)
        · have h1' := h1.mp ((zI_1 _).mp z)
          exact ⟨f, hfn, h1'.1, h1'.2.1, h1'.2.2, by rw [← h2]; exact (zI_1 _).mp z2, by rw [← h3]; exact (zI_1 _).mp z3⟩
      -- the second kind
      have k95 : ∀ (x4 x5 : Int32) (B1 B2 : Bool), x4 = zI B1 → x5 = zI B2 → (B1 = true ↔ (σ 52 f = σ 30 a ∧ a < σ 53 f ∧ σ 53 f ≤ b)) → (B2 = fnP σ (σ 54 f) a) → bX7_isFenced_95 (itr (F := Int32 → Int32 → Int32 → St → Prop) (fun _ _ _ _ => False) (fun k2 x1 x2 x3 S => bX7_isFenced_2 k2 Q x1 x2 x3 S) (c + 1)) Q (nI a) (nI b) (nI f) x4 x5 T := by
        intro x4 x5 B1 B2 e1 e2 h1 h2
        have b0 := nu_b0 (σ 55 f) s55
        have b1 := nu_b1 (σ 55 f) s55
        have k116 : (rdK (σ 31 b) && (σ 55 f).testBit 0) = false → bX7_isFenced_116 (itr (F := Int32 → Int32 → Int32 → St → Prop) (fun _ _ _ _ => False) (fun k2 x1 x2 x3 S => bX7_isFenced_2 k2 Q x1 x2 x3 S) (c + 1)) Q (nI a) (nI b) (nI f) x4 x5 T := by
          intro hr
          refine m_writes hW hb hF ⟨fun z => ?_, fun z => ⟨hif, ?_⟩⟩
          · refine k140 x4 x5 0 B1 B2 false e1 e2 rfl h1 h2 ?_
            unfold fnP; rw [hr, (zI_0 _).mp z]; rfl
          · rw [hcf, t28]
            refine ⟨fun z2 => k140 x4 x5 0 B1 B2 false e1 e2 rfl h1 h2 ?_, fun z2 => k140 x4 x5 1 B1 B2 true e1 e2 rfl h1 h2 ?_⟩
            · unfold fnP; rw [hr, b1.mp z2]; simp
            · have : (σ 55 f).testBit 1 = true := by
                cases e : (σ 55 f).testBit 1
                · exact absurd (b1.mpr e) z2
                · rfl
              unfold fnP; rw [this, (zI_1 _).mp z]; simp
        refine m_reads hW hb hF ⟨fun z => k116 ?_, fun z => ⟨hif, ?_⟩⟩
        · rw [(zI_0 _).mp z]; rfl
        · rw [hcf, t28]
          refine ⟨fun z2 => k140 x4 x5 1 B1 B2 true e1 e2 rfl h1 h2 ?_, fun z2 => k116 ?_⟩
          · have : (σ 55 f).testBit 0 = true := by
              cases e : (σ 55 f).testBit 0
              · exact absurd (b0.mpr e) z2
              · rfl
            unfold fnP; rw [this, (zI_1 _).mp z]; rfl
          · rw [b0.mp z2]; simp
      -- the first kind
      have k50 : ∀ (x4 : Int32) (B1 : Bool), x4 = zI B1 → (B1 = true ↔ (σ 52 f = σ 30 a ∧ a < σ 53 f ∧ σ 53 f ≤ b)) → bX7_isFenced_50 (itr (F := Int32 → Int32 → Int32 → St → Prop) (fun _ _ _ _ => False) (fun k2 x1 x2 x3 S => bX7_isFenced_2 k2 Q x1 x2 x3 S) (c + 1)) Q (nI a) (nI b) (nI f) x4 T := by
        intro x4 B1 e1 h1
        have b0 := nu_b0 (σ 54 f) s54
        have b1 := nu_b1 (σ 54 f) s54
        have k71 : (rdK (σ 31 a) && (σ 54 f).testBit 0) = false → bX7_isFenced_71 (itr (F := Int32 → Int32 → Int32 → St → Prop) (fun _ _ _ _ => False) (fun k2 x1 x2 x3 S => bX7_isFenced_2 k2 Q x1 x2 x3 S) (c + 1)) Q (nI a) (nI b) (nI f) x4 T := by
          intro hr
          refine m_writes hW ha hF ⟨fun z => ?_, fun z => ⟨hif, ?_⟩⟩
          · refine k95 x4 0 B1 false e1 rfl h1 ?_
            unfold fnP; rw [hr, (zI_0 _).mp z]; rfl
          · rw [hcf, t27]
            refine ⟨fun z2 => k95 x4 0 B1 false e1 rfl h1 ?_, fun z2 => k95 x4 1 B1 true e1 rfl h1 ?_⟩
            · unfold fnP; rw [hr, b1.mp z2]; simp
            · have : (σ 54 f).testBit 1 = true := by
                cases e : (σ 54 f).testBit 1
                · exact absurd (b1.mpr e) z2
                · rfl
              unfold fnP; rw [this, (zI_1 _).mp z]; simp
        refine m_reads hW ha hF ⟨fun z => k71 ?_, fun z => ⟨hif, ?_⟩⟩
        · rw [(zI_0 _).mp z]; rfl
        · rw [hcf, t27]
          refine ⟨fun z2 => k95 x4 1 B1 true e1 rfl h1 ?_, fun z2 => k71 ?_⟩
          · have : (σ 54 f).testBit 0 = true := by
              cases e : (σ 54 f).testBit 0
              · exact absurd (b0.mpr e) z2
              · rfl
            unfold fnP; rw [this, (zI_1 _).mp z]; rfl
          · rw [b0.mp z2]; simp
      have hha := (hW.1.2.2.2 a ha).1
      have k49 : ¬ (σ 52 f = σ 30 a ∧ a < σ 53 f ∧ σ 53 f ≤ b) → bX7_isFenced_49 (itr (F := Int32 → Int32 → Int32 → St → Prop) (fun _ _ _ _ => False) (fun k2 x1 x2 x3 S => bX7_isFenced_2 k2 Q x1 x2 x3 S) (c + 1)) Q (nI a) (nI b) (nI f) T := fun h => k50 0 false rfl ⟨fun q => absurd q (by decide), fun q => absurd q h⟩
      refine ⟨fun z => by rw [hE.1, nI_leI (by omega) (by omega)] at z; omega, fun _ => ⟨hif, hia, ?_⟩⟩
      rw [hcf, hca, t25, (hF a ha).1, t26]
      have e1 : nI (σ 52 f) = nI (σ 30 a) ↔ σ 52 f = σ 30 a := nI_eq (by omega) (by omega)
      have e2 : nI (σ 53 f) ≤ nI a ↔ σ 53 f ≤ a := nI_leI (by omega) (by omega)
      have e3 : nI b < nI (σ 53 f) ↔ b < σ 53 f := nI_ltI (by omega) (by omega)
      refine ⟨fun z => k49 (fun q => z (e1.mpr q.1)), fun z => ⟨hif, fun z2 => k49 (fun q => by have := e2.mp z2; omega), fun z2 => ⟨hif, fun z3 => k49 (fun q => by have := e3.mp z3; omega), fun z3 => k50 1 true rfl ⟨fun _ => ⟨e1.mp z, ?_, ?_⟩, fun _ => rfl⟩⟩⟩⟩
      · rcases Nat.lt_or_ge a (σ 53 f) with q | q
        · exact q
        · exact absurd (e2.mpr q) z2
      · rcases Nat.lt_or_ge b (σ 53 f) with q | q
        · exact absurd (e3.mpr q) z3
        · exact q
  exact ⟨σ 51 0 + 1, loop (σ 51 0) 0 (by omega) (fun m h => absurd h (Nat.not_lt_zero _))⟩
theorem m_mustStand {a b : Nat} {Q : Int32 → St → Prop} (hW : WS mo σ) (hmo : mo < 3) (hS : FS σ) (hF : ∀ i, i < σ 7 0 → MF σ T i) (hE : MFE σ T) (h0 : T.1 0 0 = nI mo) (hab : a < b) (hb : b < σ 7 0) (hT : mustP mo σ a b → Q 1 T) (hN : ¬ mustP mo σ a b → Q 0 T) : pX7_mustStand (nI a) (nI b) T Q := by
  have h6 := hW.1.1
  have ha : a < σ 7 0 := by omega
  have hia : vp_in (nI a) 6 := nu_in (by omega) (by decide)
  have hib : vp_in (nI b) 6 := nu_in (by omega) (by decide)
  have hca : (nI a).toNatClampNeg = a := nu_cl (by omega)
  have hcb : (nI b).toNatClampNeg = b := nu_cl (by omega)
  obtain ⟨fa1, fa2, fa3, fa4, fa5, fa6, fa7, fa8, fa9, fa10⟩ := hF a ha
  obtain ⟨fb1, fb2, fb3, fb4, fb5, fb6, fb7, fb8, fb9, fb10⟩ := hF b hb
  obtain ⟨ia1, ia2, ia3, ia4, ia5, ia6, ia7, ia8, ia9, ia10, ia11, ia12, ia13⟩ := hW.1.2.2.2 a ha
  obtain ⟨ib1, ib2, ib3, ib4, ib5, ib6, ib7, ib8, ib9, ib10, ib11, ib12, ib13⟩ := hW.1.2.2.2 b hb
  have em2 : nI mo = (2 : Int32) ↔ mo = 2 := nI_eq (b := 2) (by omega) (by decide)
  have em1 : nI mo = (1 : Int32) ↔ mo = 1 := nI_eq (b := 1) (by omega) (by decide)
  -- the last rule: what is between
  have k187 : (¬ ((mo = 2 ∨ mo = 1 ∧ (rdK (σ 31 a) = true ∨ wtK (σ 31 b) = true)) ∨ (wtK (σ 31 b) = true ∧ σ 32 a = σ 32 b) ∨ fenB σ a b ∨ (σ 33 a).testBit 0 = true ∨ (σ 33 b).testBit 1 = true ∨ (σ 33 a ≠ 0 ∧ σ 33 b ≠ 0) ∨ (σ 31 b = 5 ∧ σ 40 b = a + 1) ∨ (σ 38 b).testBit a = true ∨ (σ 39 b).testBit a = true ∨ (wtK (σ 31 b) = true ∧ (σ 50 b).testBit a = true))) → bX7_mustStand_187 Q (nI a) (nI b) T := by
    intro hno
    have fin : (wtK (σ 31 b) = true ∧ ∃ m, a < m ∧ m < b ∧ (σ 38 m).testBit a = true) ↔ mustP mo σ a b := by
      unfold mustP
      constructor
      · intro h; exact Or.inr (Or.inr (Or.inr (Or.inr (Or.inr (Or.inr (Or.inr (Or.inr (Or.inr (Or.inr h)))))))))
      · rintro (h | h | h | h | h | h | h | h | h | h | h)
        · exact absurd (Or.inl h) hno
        · exact absurd (Or.inr (Or.inl h)) hno
        · exact absurd (Or.inr (Or.inr (Or.inl h))) hno
        · exact absurd (Or.inr (Or.inr (Or.inr (Or.inl h)))) hno
        · exact absurd (Or.inr (Or.inr (Or.inr (Or.inr (Or.inl h))))) hno
        · exact absurd (Or.inr (Or.inr (Or.inr (Or.inr (Or.inr (Or.inl h)))))) hno
        · exact absurd (Or.inr (Or.inr (Or.inr (Or.inr (Or.inr (Or.inr (Or.inl h))))))) hno
        · exact absurd (Or.inr (Or.inr (Or.inr (Or.inr (Or.inr (Or.inr (Or.inr (Or.inl h)))))))) hno
        · exact absurd (Or.inr (Or.inr (Or.inr (Or.inr (Or.inr (Or.inr (Or.inr (Or.inr (Or.inl h))))))))) hno
        · exact absurd (Or.inr (Or.inr (Or.inr (Or.inr (Or.inr (Or.inr (Or.inr (Or.inr (Or.inr h))))))))) hno
        · exact h
    have loop : ∀ c m (B : Bool), m + c = b → a < m → (B = true ↔ ∃ k, a < k ∧ k < m ∧ (σ 38 k).testBit a = true) → itr (F := Int32 → Int32 → Int32 → Int32 → St → Prop) (fun _ _ _ _ _ => False) (fun k195 x1 x2 x4 x5 S => bX7_mustStand_195 k195 Q x1 x2 x4 x5 S) (c + 1) (nI a) (nI b) (zI B) (nI m) T := by
      intro c
      induction c with
      | zero =>
        intro m B hm ham hB
        have : m = b := by omega
        subst this
        refine ⟨fun _ => ?_, fun z => absurd (nI_le (by omega) (by omega)) z⟩
        refine m_writes hW hb hF ⟨fun z => ⟨Or.inl rfl, hN (fun q => ?_)⟩, fun z => ⟨fun z2 => ⟨Or.inl rfl, hN (fun q => ?_)⟩, fun z2 => ⟨Or.inr rfl, hT (fin.mp ⟨(zI_1 _).mp z, hB.mp ((zI_1 _).mp z2)⟩)⟩⟩⟩
        · have := (fin.mpr q).1
          rw [this] at z; exact absurd z (by decide)
        · have := hB.mpr (fin.mpr q).2
          rw [this] at z2; exact absurd z2 (by decide)
      | succ c ih =>
        intro m B hm ham hB
        have hmn : m < σ 7 0 := by omega
        have next : ∀ (t0 : Int32) (B' : Bool), t0 = zI B' → (B' = true ↔ (B = true ∨ (σ 38 m).testBit a = true)) → bX7_mustStand_225 (itr (F := Int32 → Int32 → Int32 → Int32 → St → Prop) (fun _ _ _ _ _ => False) (fun k195 x1 x2 x4 x5 S => bX7_mustStand_195 k195 Q x1 x2 x4 x5 S) (c + 1)) Q (nI a) (nI b) (nI m) t0 T := by
          intro t0 B' et hB' y1 e1
          rw [e1, nI_1, et]
          refine ih (m + 1) B' (by omega) (by omega) ?_
          rw [hB', hB]
          constructor
          · rintro (⟨k, k1, k2, k3⟩ | k)
            · exact ⟨k, k1, by omega, k3⟩
            · exact ⟨m, ham, by omega, k⟩
          · rintro ⟨k, k1, k2, k3⟩
            by_cases z : k = m
            · subst z; exact Or.inr k3
            · exact Or.inl ⟨k, k1, by omega, k3⟩
        refine ⟨fun z => absurd ((nI_leI (by omega) (by omega)).mp z) (by omega), fun _ => ⟨fun z => next 1 true rfl ⟨fun _ => Or.inl ((zI_1 _).mp z), fun _ => rfl⟩, fun z => ⟨nu_in (by omega) (by decide), ?_⟩⟩⟩
        have hBf := (zI_0 _).mp z
        rw [nu_cl (by omega), (hF m hmn).2.2.2.2.2.2.1]
        refine m_needs (hW.1.2.2.2 m hmn).2.2.2.2.2.2.1 (by omega) ⟨fun w => next 0 false rfl ⟨fun q => absurd q (by decide), fun q => ?_⟩, fun w => next 1 true rfl ⟨fun _ => Or.inr ((zI_1 _).mp w), fun _ => rfl⟩⟩
        rcases q with q | q
        · rw [hBf] at q; exact absurd q (by decide)
        · rw [q] at w; exact absurd w (by decide)
    intro y11 e11
    rw [e11, nI_1]
    exact ⟨b - (a + 1) + 1, loop (b - (a + 1)) (a + 1) false (by omega) (by omega) ⟨fun q => absurd q (by decide), fun ⟨k, k1, k2, _⟩ => by omega⟩⟩
  have k138 : (¬ ((mo = 2 ∨ mo = 1 ∧ (rdK (σ 31 a) = true ∨ wtK (σ 31 b) = true)) ∨ (wtK (σ 31 b) = true ∧ σ 32 a = σ 32 b) ∨ fenB σ a b ∨ (σ 33 a).testBit 0 = true ∨ (σ 33 b).testBit 1 = true ∨ (σ 33 a ≠ 0 ∧ σ 33 b ≠ 0) ∨ (σ 31 b = 5 ∧ σ 40 b = a + 1))) → bX7_mustStand_138 Q (nI a) (nI b) T := by
    intro hno
    unfold bX7_mustStand_138
    rw [hcb, fb7, fb8]
    refine ⟨hib, m_needs ib7 (by omega) ⟨fun w => hT ?_, fun w => ⟨hib, m_needs ib8 (by omega) ⟨fun w2 => hT ?_, fun w2 => ?_⟩⟩⟩⟩
    · exact Or.inr (Or.inr (Or.inr (Or.inr (Or.inr (Or.inr (Or.inr (Or.inl ((zI_1 _).mp w))))))))
    · exact Or.inr (Or.inr (Or.inr (Or.inr (Or.inr (Or.inr (Or.inr (Or.inr (Or.inl ((zI_1 _).mp w2)))))))))
    · have n38 : ¬ (σ 38 b).testBit a = true := fun q => by rw [q] at w; exact absurd w (by decide)
      have n39 : ¬ (σ 39 b).testBit a = true := fun q => by rw [q] at w2; exact absurd w2 (by decide)
      have hno2 : ¬ (wtK (σ 31 b) = true ∧ (σ 50 b).testBit a = true) → bX7_mustStand_187 Q (nI a) (nI b) T := by
        intro n50
        refine k187 ?_
        rintro (h | h | h | h | h | h | h | h | h | h)
        · exact hno (Or.inl h)
        · exact hno (Or.inr (Or.inl h))
        · exact hno (Or.inr (Or.inr (Or.inl h)))
        · exact hno (Or.inr (Or.inr (Or.inr (Or.inl h))))
        · exact hno (Or.inr (Or.inr (Or.inr (Or.inr (Or.inl h)))))
        · exact hno (Or.inr (Or.inr (Or.inr (Or.inr (Or.inr (Or.inl h))))))
        · exact hno (Or.inr (Or.inr (Or.inr (Or.inr (Or.inr (Or.inr h))))))
        · exact n38 h
        · exact n39 h
        · exact n50 h
      refine m_writes hW hb hF ⟨fun w3 => hno2 (fun q => by rw [q.1] at w3; exact absurd w3 (by decide)), fun w3 => ⟨hib, ?_⟩⟩
      rw [fb9]
      refine m_needs ib13 (by omega) ⟨fun w4 => hno2 (fun q => by rw [q.2] at w4; exact absurd w4 (by decide)), fun w4 => hT ?_⟩
      exact Or.inr (Or.inr (Or.inr (Or.inr (Or.inr (Or.inr (Or.inr (Or.inr (Or.inr (Or.inl ⟨(zI_1 _).mp w3, (zI_1 _).mp w4⟩)))))))))
  have k118 : (¬ ((mo = 2 ∨ mo = 1 ∧ (rdK (σ 31 a) = true ∨ wtK (σ 31 b) = true)) ∨ (wtK (σ 31 b) = true ∧ σ 32 a = σ 32 b) ∨ fenB σ a b ∨ (σ 33 a).testBit 0 = true ∨ (σ 33 b).testBit 1 = true ∨ (σ 33 a ≠ 0 ∧ σ 33 b ≠ 0))) → bX7_mustStand_118 Q (nI a) (nI b) T := by
    intro hno
    have go : ¬ (σ 31 b = 5 ∧ σ 40 b = a + 1) → bX7_mustStand_138 Q (nI a) (nI b) T := by
      intro n8
      refine k138 ?_
      rintro (h | h | h | h | h | h | h)
      · exact hno (Or.inl h)
      · exact hno (Or.inr (Or.inl h))
      · exact hno (Or.inr (Or.inr (Or.inl h)))
      · exact hno (Or.inr (Or.inr (Or.inr (Or.inl h))))
      · exact hno (Or.inr (Or.inr (Or.inr (Or.inr (Or.inl h)))))
      · exact hno (Or.inr (Or.inr (Or.inr (Or.inr (Or.inr h)))))
      · exact n8 h
    unfold bX7_mustStand_118
    rw [hcb, fb2]
    have e5 : nI (σ 31 b) = (5 : Int32) ↔ σ 31 b = 5 := nI_eq (b := 5) (by omega) (by decide)
    refine ⟨hib, fun z => go (fun q => z (e5.mpr q.1)), fun z => ⟨hib, ?_⟩⟩
    have h5 := e5.mp z
    rw [fb10 h5]
    have e40 : nI (σ 40 b) - 1 = nI a ↔ σ 40 b = a + 1 := by
      constructor
      · intro q
        rcases Nat.eq_zero_or_pos (σ 40 b) with y | y
        · rw [y] at q
          have := (nI_pos (n := a) (by omega))
          rw [← q] at this
          exact absurd ((nu_neg (by decide)).mpr rfl) this
        · rw [nu_pred y, nI_eq (by omega) (by omega)] at q; omega
      · intro q; rw [q, nI_pred]
    exact ⟨fun w => hT (Or.inr (Or.inr (Or.inr (Or.inr (Or.inr (Or.inr (Or.inl ⟨h5, e40.mp w⟩))))))), fun w => go (fun q => w (e40.mpr q.2))⟩
  have k67 : (¬ ((mo = 2 ∨ mo = 1 ∧ (rdK (σ 31 a) = true ∨ wtK (σ 31 b) = true)) ∨ (wtK (σ 31 b) = true ∧ σ 32 a = σ 32 b))) → bX7_mustStand_67 Q (nI a) (nI b) T := by
    intro hno
    refine m_isFenced hW hS hF hE ha hb (fun q => ⟨fun _ => hT (Or.inr (Or.inr (Or.inl q))), fun y => absurd y (by decide)⟩) (fun q => ⟨fun y => absurd rfl y, fun _ => ⟨hia, ?_⟩⟩)
    rw [hca, hcb, fa6, fb6]
    have b0 := nu_b0 (σ 33 a) ia4
    have b1 := nu_b1 (σ 33 b) ib4
    have za : nI (σ 33 a) = 0 ↔ σ 33 a = 0 := nu_e0 (by omega)
    have zb' : nI (σ 33 b) = 0 ↔ σ 33 b = 0 := nu_e0 (by omega)
    refine ⟨fun z => hT (Or.inr (Or.inr (Or.inr (Or.inl ?_)))), fun z => ⟨hib, fun z2 => hT (Or.inr (Or.inr (Or.inr (Or.inr (Or.inl ?_))))), fun z2 => ?_⟩⟩
    · cases e : (σ 33 a).testBit 0
      · exact absurd (b0.mpr e) z
      · rfl
    · cases e : (σ 33 b).testBit 1
      · exact absurd (b1.mpr e) z2
      · rfl
    · have go : ¬ (σ 33 a ≠ 0 ∧ σ 33 b ≠ 0) → bX7_mustStand_118 Q (nI a) (nI b) T := by
        intro n7
        refine k118 ?_
        rintro (h | h | h | h | h | h)
        · exact hno (Or.inl h)
        · exact hno (Or.inr h)
        · exact q h
        · rw [b0.mp z] at h; cases h
        · rw [b1.mp z2] at h; cases h
        · exact n7 h
      exact ⟨hia, fun z3 => go (fun y => y.1 (za.mp z3)), fun z3 => ⟨hib, fun z4 => go (fun y => y.2 (zb'.mp z4)), fun z4 => hT (Or.inr (Or.inr (Or.inr (Or.inr (Or.inr (Or.inl ⟨fun y => z3 (za.mpr y), fun y => z4 (zb'.mpr y)⟩))))))⟩⟩
  have k34 : (¬ (mo = 2 ∨ mo = 1 ∧ (rdK (σ 31 a) = true ∨ wtK (σ 31 b) = true))) → bX7_mustStand_34 Q (nI a) (nI b) T := by
    intro hno
    unfold bX7_mustStand_34
    rw [hca, hcb, fa3, fb3]
    have e32 : nI (σ 32 a) = nI (σ 32 b) ↔ σ 32 a = σ 32 b := nI_eq (by omega) (by omega)
    have k54 : ∀ (t0 : Int32) (B : Bool), t0 = zI B → (B = true ↔ σ 32 a = σ 32 b) → bX7_mustStand_54 Q (nI a) (nI b) t0 T := by
      intro t0 B et hB
      rw [et]
      refine m_writes hW hb hF ⟨fun z => k67 ?_, fun z => ⟨fun z2 => hT (Or.inr (Or.inl ⟨(zI_1 _).mp z, hB.mp ((zI_1 _).mp z2)⟩)), fun z2 => k67 ?_⟩⟩
      · rintro (h | h)
        · exact hno h
        · rw [h.1] at z; exact absurd z (by decide)
      · rintro (h | h)
        · exact hno h
        · rw [hB.mpr h.2] at z2; exact absurd z2 (by decide)
    exact ⟨hia, hib, fun z => k54 0 false rfl ⟨fun q => absurd q (by decide), fun q => absurd (e32.mpr q) z⟩, fun z => k54 1 true rfl ⟨fun _ => e32.mp z, fun _ => rfl⟩⟩
  unfold pX7_mustStand
  rw [h0]
  refine ⟨fun z => hT (Or.inl (Or.inl (em2.mp z))), fun z => ⟨fun z1 => k34 ?_, fun z1 => ?_⟩⟩
  · rintro (h | h)
    · exact z (em2.mpr h)
    · exact z1 (em1.mpr h.1)
  · refine m_reads hW ha hF ⟨fun w => hT (Or.inl (Or.inr ⟨em1.mp z1, Or.inl ((zI_1 _).mp w)⟩)), fun w => ?_⟩
    refine m_writes hW hb hF ⟨fun w2 => k34 ?_, fun w2 => hT (Or.inl (Or.inr ⟨em1.mp z1, Or.inr ((zI_1 _).mp w2)⟩))⟩
    rintro (h | h)
    · exact z (em2.mpr h)
    · rcases h.2 with q | q
      · rw [q] at w; exact absurd w (by decide)
      · rw [q] at w2; exact absurd w2 (by decide)
theorem m_findMust {Q : St → Prop} (hW : WS mo σ) (hmo : mo < 3) (hS : FS σ) (h13 : T.1 13 0 = nI (σ 7 0)) (hF : ∀ i, i < σ 7 0 → MF σ T i) (hE : MFE σ T) (h0 : T.1 0 0 = nI mo)
    (hQ : ∀ T', (∀ v i, v ≠ 29 → T'.1 v i = T.1 v i) → T'.2 = T.2 → (∀ a b, a < σ 7 0 → b < σ 7 0 → T'.1 29 (6 * a + b) = zI ((σ 43 b).testBit a)) → Q T') : pX7_findMust T Q := by
  have h6 := hW.1.1
  have inv : ∀ T1 : St, (∀ v i, v ≠ 29 → T1.1 v i = T.1 v i) → (T1.1 13 0 = nI (σ 7 0) ∧ (∀ i, i < σ 7 0 → MF σ T1 i) ∧ MFE σ T1 ∧ T1.1 0 0 = nI mo) := by
    intro T1 g
    refine ⟨by rw [g _ _ (by decide)]; exact h13, fun i hi => ?_, ?_, by rw [g _ _ (by decide)]; exact h0⟩
    · have := hF i hi
      unfold MF at this ⊢
      simp only [g 14 i (by decide), g 15 i (by decide), g 16 i (by decide), g 17 i (by decide), g 18 i (by decide), g 19 i (by decide), g 20 i (by decide), g 21 i (by decide), g 22 i (by decide), g 23 i (by decide)]
      exact this
    · have := hE
      unfold MFE at this ⊢
      simp only [g 24 _ (by decide), g 25 _ (by decide), g 26 _ (by decide), g 27 _ (by decide), g 28 _ (by decide)]
      exact this
  have loop2 : ∀ (k2 : Int32 → St → Prop) (a : Nat), a < σ 7 0 → ∀ c b (T1 : St), b + c = σ 7 0 → (∀ v i, v ≠ 29 → T1.1 v i = T.1 v i) → T1.2 = T.2 → (∀ x y, x < σ 7 0 → y < σ 7 0 → (x < a ∨ x = a ∧ y < b) → T1.1 29 (6 * x + y) = zI ((σ 43 y).testBit x)) → (∀ T2 : St, (∀ v i, v ≠ 29 → T2.1 v i = T.1 v i) → T2.2 = T.2 → (∀ x y, x < σ 7 0 → y < σ 7 0 → x < a + 1 → T2.1 29 (6 * x + y) = zI ((σ 43 y).testBit x)) → k2 (nI (a + 1)) T2) →
      itr (F := Int32 → Int32 → St → Prop) (fun _ _ _ => False) (fun k12 x1 x2 S => bX7_findMust_12 k2 k12 Q x1 x2 S) (c + 1) (nI a) (nI b) T1 := by
    intro k2 a ha c
    induction c with
    | zero =>
      intro b T1 hb f1 f2 f3 hk
      obtain ⟨v13, -⟩ := inv T1 f1
      refine ⟨fun _ y4 e4 => ?_, fun z => absurd (by rw [v13]; exact nI_le (by omega) (by omega)) z⟩
      rw [e4, nI_1]
      exact hk T1 f1 f2 (fun x y hx hy hxa => f3 x y hx hy (by omega))
    | succ c ih =>
      intro b T1 hb f1 f2 f3 hk
      obtain ⟨v13, vF, vE, v0⟩ := inv T1 f1
      have hbn : b < σ 7 0 := by omega
      have k64 : ∀ t2 : Int32, t2 = zI ((σ 43 b).testBit a) → bX7_findMust_64 k2 (itr (F := Int32 → Int32 → St → Prop) (fun _ _ _ => False) (fun k12 x1 x2 S => bX7_findMust_12 k2 k12 Q x1 x2 S) (c + 1)) Q (nI a) (nI b) (((6 : Int32) * nI a) + nI b) t2 T1 := by
        intro t2 et
        have e6 : ((6 : Int32) * nI a) + nI b = nI (6 * a + b) := by rw [show (6 : Int32) = nI 6 from rfl, pk_mul, nI_add]
        unfold bX7_findMust_64
        rw [e6, nu_cl (by omega), et]
        refine ⟨nu_in (by omega) (by decide), zI_z _, fun S1 e1 y3 e3 => ?_⟩
        rw [e3, nI_1]
        refine ih (b + 1) S1 (by omega) (fun v i hv => by rw [e1, wr_1, if_neg hv]; exact f1 v i hv) (by rw [e1]; exact f2) (fun x y hx hy hxy => ?_) hk
        rw [e1, wr_1, if_pos rfl]
        by_cases z : 6 * x + y = 6 * a + b
        · have : x = a ∧ y = b := by omega
          rw [if_pos z, this.1, this.2]
        · rw [if_neg z]; exact f3 x y hx hy (by omega)
      have hAB := (hW.2.1 b hbn).1 a
      have k63 : ¬ (a < b ∧ σ 30 a = σ 30 b ∧ mustP mo σ a b) → bX7_findMust_63 k2 (itr (F := Int32 → Int32 → St → Prop) (fun _ _ _ => False) (fun k12 x1 x2 S => bX7_findMust_12 k2 k12 Q x1 x2 S) (c + 1)) Q (nI a) (nI b) (((6 : Int32) * nI a) + nI b) T1 := by
        intro hno
        refine k64 0 ?_
        cases e : (σ 43 b).testBit a
        · rfl
        · exact absurd (hAB.mp e) hno
      refine ⟨fun z => by rw [v13, nI_leI (by omega) (by omega)] at z; omega, fun _ => ⟨fun z => k63 (fun q => ?_), fun z => ⟨nu_in (by omega) (by decide), nu_in (by omega) (by decide), ?_⟩⟩⟩
      · have := (nI_leI (by omega) (by omega)).mp z; omega
      · have hab : a < b := by
          rcases Nat.lt_or_ge a b with q | q
          · exact q
          · exact absurd (nI_le q (by omega)) z
        rw [nu_cl (by omega), nu_cl (by omega), (vF a ha).1, (vF b hbn).1]
        have e30 : nI (σ 30 a) = nI (σ 30 b) ↔ σ 30 a = σ 30 b := nI_eq (by have := (hW.1.2.2.2 a ha).1; omega) (by have := (hW.1.2.2.2 b hbn).1; omega)
        refine ⟨fun w => k63 (fun q => w (e30.mpr q.2.1)), fun w => ?_⟩
        refine m_mustStand hW hmo hS vF vE v0 hab hbn (fun q => ⟨fun y => absurd y (by decide), fun _ => k64 1 ?_⟩) (fun q => ⟨fun _ => k63 (fun y => q y.2.2), fun y => absurd rfl y⟩)
        rw [hAB.mpr ⟨hab, e30.mp w, q⟩]; rfl
  have loop1 : ∀ c a (T1 : St), a + c = σ 7 0 → (∀ v i, v ≠ 29 → T1.1 v i = T.1 v i) → T1.2 = T.2 → (∀ x y, x < σ 7 0 → y < σ 7 0 → x < a → T1.1 29 (6 * x + y) = zI ((σ 43 y).testBit x)) → itr (F := Int32 → St → Prop) (fun _ _ => False) (fun k2 x1 S => bX7_findMust_2 k2 Q x1 S) (c + 1) (nI a) T1 := by
    intro c
    induction c with
    | zero =>
      intro a T1 ha f1 f2 f3
      obtain ⟨v13, -⟩ := inv T1 f1
      refine ⟨fun _ => hQ T1 f1 f2 (fun x y hx hy => f3 x y hx hy (by omega)), fun z => absurd (by rw [v13]; exact nI_le (by omega) (by omega)) z⟩
    | succ c ih =>
      intro a T1 ha f1 f2 f3
      obtain ⟨v13, -⟩ := inv T1 f1
      refine ⟨fun z => by rw [v13, nI_leI (by omega) (by omega)] at z; omega, fun _ => ⟨σ 7 0 + 1, ?_⟩⟩
      exact loop2 _ a (by omega) (σ 7 0) 0 T1 (by omega) f1 f2 (fun x y hx hy hxy => f3 x y hx hy (by omega)) (fun T2 g1 g2 g3 => ih (a + 1) T2 (by omega) g1 g2 g3)
  exact ⟨σ 7 0 + 1, loop1 (σ 7 0) 0 T (by omega) (fun _ _ _ => rfl) rfl (fun x y _ _ h => absurd h (Nat.not_lt_zero _))⟩
end MMS
