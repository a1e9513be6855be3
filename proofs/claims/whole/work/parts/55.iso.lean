/-! the reference: whether the places are an order -/
section MIO5
variable {mo : Nat} {σ : AW} {p : Nat → Nat} {T : St}
theorem MP_c {T' : St} (hM : MP σ p T) (g : ∀ v i, v ≠ 32 → T'.1 v i = T.1 v i) : MP σ p T' := by
  obtain ⟨h1, h2, h3⟩ := hM
  refine ⟨by rw [g _ _ (by decide)]; exact h1, fun i hi => ?_, fun i hi => by rw [g _ _ (by decide)]; exact h3 i hi⟩
  have := h2 i hi
  unfold MF at this ⊢
  simp only [g 14 i (by decide), g 15 i (by decide), g 16 i (by decide), g 17 i (by decide), g 18 i (by decide), g 19 i (by decide), g 20 i (by decide), g 21 i (by decide), g 22 i (by decide), g 23 i (by decide)]
  exact this
theorem m_isOrder {Q : Int32 → St → Prop} (hW : WS mo σ) (hC : CO σ p) (hM : MP σ p T) (h29 : ∀ a b, a < σ 7 0 → b < σ 7 0 → T.1 29 (6 * a + b) = zI ((σ 43 b).testBit a))
    (hT : isOrd σ p → ∀ T', (∀ v i, v ≠ 32 → T'.1 v i = T.1 v i) → T'.2 = T.2 → Q 1 T') (hN : ¬ isOrd σ p → ∀ T', (∀ v i, v ≠ 32 → T'.1 v i = T.1 v i) → T'.2 = T.2 → Q 0 T') : pX7_isOrder T Q := by
  have h6 := hW.1.1
  -- the third loop
  have third : ∀ T1 : St, (∀ v i, v ≠ 32 → T1.1 v i = T.1 v i) → T1.2 = T.2 → (∀ a b, a < b → b < σ 7 0 → (σ 43 b).testBit a = true → ¬ p b < p a) → (∀ b, b < σ 7 0 → rdK (σ 31 b) = true → T1.1 32 b = nI (srcR σ p b) - 1 ∧ vl σ (srcR σ p b) = σ 36 b) → ∃ N : Nat, itr (F := Int32 → St → Prop) (fun _ _ => False) (fun k139 x1 S => bX7_isOrder_139 k139 Q x1 S) N (0 : Int32) T1 := by
    intro T1 g1 g2 o1 o2
    have hM1 := MP_c hM g1
    obtain ⟨h13, hF, h31⟩ := hM1
    have h32 : ∀ i, i < σ 7 0 → rdK (σ 31 i) = true → T1.1 32 i = nI (srcR σ p i) - 1 := fun i hi hr => (o2 i hi hr).1
    have loop : ∀ d b, b + d = σ 7 0 → (∀ b', b' < b → (∀ a, a < b' → ¬ (rdK (σ 31 b') = true ∧ σ 30 a = σ 30 b' ∧ p b' < p a ∧ asked σ p a b')) ∧ (σ 31 b' = 5 → atomR σ p b')) → itr (F := Int32 → St → Prop) (fun _ _ => False) (fun k139 x1 S => bX7_isOrder_139 k139 Q x1 S) (d + 1) (nI b) T1 := by
      intro d
      induction d with
      | zero =>
        intro b hb o3
        have : b = σ 7 0 := by omega
        subst this
        exact ⟨fun _ => hT ⟨o1, fun b hb hr => (o2 b hb hr).2, o3⟩ T1 g1 g2, fun z => absurd (by rw [h13]; exact nI_le (by omega) (by omega)) z⟩
      | succ d ih =>
        intro b hb o3
        have hbn : b < σ 7 0 := by omega
        have hib : vp_in (nI b) 6 := nu_in (by omega) (by decide)
        have cb : (nI b).toNatClampNeg = b := nu_cl (by omega)
        have pb := hC.1 b hbn
        refine ⟨fun z => by rw [h13, nI_leI (by omega) (by omega)] at z; omega, fun _ => ⟨b + 1, ?_⟩⟩
        have inner : ∀ c a, a + c = b → (∀ a', a' < a → ¬ (rdK (σ 31 b) = true ∧ σ 30 a' = σ 30 b ∧ p b < p a' ∧ asked σ p a' b)) → itr (F := Int32 → Int32 → St → Prop) (fun _ _ _ => False) (fun k149 x1 x2 S => bX7_isOrder_149 (itr (F := Int32 → St → Prop) (fun _ _ => False) (fun k139 x1 S => bX7_isOrder_139 k139 Q x1 S) (d + 1)) k149 Q x1 x2 S) (c + 1) (nI b) (nI a) T1 := by
          intro c
          induction c with
          | zero =>
            intro a ha o4
            have : a = b := by omega
            subst this
            have nx : (σ 31 a = 5 → atomR σ p a) → bX7_isOrder_229 (itr (F := Int32 → St → Prop) (fun _ _ => False) (fun k139 x1 S => bX7_isOrder_139 k139 Q x1 S) (d + 1)) Q (nI a) T1 := by
              intro h y1 e1
              rw [e1, nI_1]
              refine ih (a + 1) (by omega) (fun b' hb' => ?_)
              by_cases z : b' = a
              · subst z; exact ⟨o4, h⟩
              · exact o3 b' (by omega)
            have xk := (hW.1.2.2.2 a hbn).2.1
            have e5 : nI (σ 31 a) = (5 : Int32) ↔ σ 31 a = 5 := nu_eqL rfl (by omega) (by decide)
            refine ⟨fun _ => ⟨hib, ?_⟩, fun z => absurd (nI_le (by omega) (by omega)) z⟩
            rw [cb, (hF a hbn).2.1]
            refine ⟨fun z => nx (fun q => absurd (e5.mpr q) z), fun z => ?_⟩
            have k5 := e5.mp z
            exact m_isAtomic hW hC ⟨h13, hF, h31⟩ h32 hbn k5 (fun q => ⟨fun _ => nx (fun _ => q), fun y => absurd y (by decide)⟩) (fun q => ⟨fun y => absurd rfl y, fun _ => hN (fun o => q ((o.2.2 a hbn).2 k5)) T1 g1 g2⟩)
          | succ c ihc =>
            intro a ha o4
            have hab : a < b := by omega
            have han : a < σ 7 0 := by omega
            have hia : vp_in (nI a) 6 := nu_in (by omega) (by decide)
            have ca : (nI a).toNatClampNeg = a := nu_cl (by omega)
            have pa := hC.1 a han
            have nx : ¬ (rdK (σ 31 b) = true ∧ σ 30 a = σ 30 b ∧ p b < p a ∧ asked σ p a b) → bX7_isOrder_203 (itr (F := Int32 → St → Prop) (fun _ _ => False) (fun k139 x1 S => bX7_isOrder_139 k139 Q x1 S) (d + 1)) (itr (F := Int32 → Int32 → St → Prop) (fun _ _ _ => False) (fun k149 x1 x2 S => bX7_isOrder_149 (itr (F := Int32 → St → Prop) (fun _ _ => False) (fun k139 x1 S => bX7_isOrder_139 k139 Q x1 S) (d + 1)) k149 Q x1 x2 S) (c + 1)) Q (nI b) (nI a) T1 := by
              intro h y2 e2
              rw [e2, nI_1]
              refine ihc (a + 1) (by omega) (fun a' ha' => ?_)
              by_cases z : a' = a
              · subst z; exact h
              · exact o4 a' (by omega)
            have xa := (hW.1.2.2.2 a han).1
            have xb := (hW.1.2.2.2 b hbn).1
            have e30 : nI (σ 30 a) = nI (σ 30 b) ↔ σ 30 a = σ 30 b := nI_eq (by omega) (by omega)
            have ep : nI (p a) ≤ nI (p b) ↔ p a ≤ p b := nI_leI (by omega) (by omega)
            refine ⟨fun z => by rw [nI_leI (by omega) (by omega)] at z; omega, fun _ => ?_⟩
            refine m_reads hW hbn hF ⟨fun z => nx (fun q => by rw [q.1] at z; exact absurd z (by decide)), fun z => ⟨hia, hib, ?_⟩⟩
            rw [ca, cb, (hF a han).1, (hF b hbn).1, h31 a han, h31 b hbn]
            refine ⟨fun z2 => nx (fun q => z2 (e30.mpr q.2.1)), fun z2 => ⟨hia, hib, fun z3 => nx (fun q => by have := ep.mp z3; omega), fun z3 => ?_⟩⟩
            have hr := (zI_1 _).mp z
            refine m_isAsked hW hF h32 hab hbn hr (fun q => ⟨fun y => absurd y (by decide), fun _ => hN (fun o => (o.2.2 b hbn).1 a hab ⟨hr, e30.mp z2, ?_, q⟩) T1 g1 g2⟩) (fun q => ⟨fun _ => nx (fun x => q x.2.2.2), fun y => absurd rfl y⟩)
            rcases Nat.lt_or_ge (p b) (p a) with y | y
            · exact y
            · exact absurd (ep.mpr y) z3
        exact inner b 0 (by omega) (fun a h => absurd h (Nat.not_lt_zero _))
    exact ⟨σ 7 0 + 1, loop (σ 7 0) 0 (by omega) (fun b h => absurd h (Nat.not_lt_zero _))⟩
  -- the second loop
  have second : (∀ a b, a < b → b < σ 7 0 → (σ 43 b).testBit a = true → ¬ p b < p a) → ∀ d b (T1 : St), b + d = σ 7 0 → (∀ v i, v ≠ 32 → T1.1 v i = T.1 v i) → T1.2 = T.2 → (∀ i, i < b → rdK (σ 31 i) = true → T1.1 32 i = nI (srcR σ p i) - 1 ∧ vl σ (srcR σ p i) = σ 36 i) → itr (F := Int32 → St → Prop) (fun _ _ => False) (fun k67 x1 S => bX7_isOrder_67 k67 Q x1 S) (d + 1) (nI b) T1 := by
    intro o1 d
    induction d with
    | zero =>
      intro b T1 hb g1 g2 o2
      have : b = σ 7 0 := by omega
      subst this
      exact ⟨fun _ => third T1 g1 g2 o1 o2, fun z => absurd (by rw [(MP_c hM g1).1]; exact nI_le (by omega) (by omega)) z⟩
    | succ d ih =>
      intro b T1 hb g1 g2 o2
      have hbn : b < σ 7 0 := by omega
      have hib : vp_in (nI b) 6 := nu_in (by omega) (by decide)
      have cb : (nI b).toNatClampNeg = b := nu_cl (by omega)
      have hM1 := MP_c hM g1
      have xg := (hW.1.2.2.2 b hbn).2.2.2.2.1
      refine ⟨fun z => by rw [hM1.1, nI_leI (by omega) (by omega)] at z; omega, fun _ => ?_⟩
      refine m_reads hW hbn hM1.2.1 ⟨fun z => ?_, fun z => ?_⟩
      · intro y e
        rw [e, nI_1]
        refine ih (b + 1) T1 (by omega) g1 g2 (fun i hi hr => ?_)
        by_cases q : i = b
        · subst q; rw [hr] at z; exact absurd z (by decide)
        · exact o2 i (by omega) hr
      · have hr := (zI_1 _).mp z
        refine m_sourceOf hW hC hM1 hbn ⟨hib, fun T2 e2 => ?_⟩
        rw [cb] at e2
        have g1' : ∀ v i, v ≠ 32 → T2.1 v i = T.1 v i := fun v i hv => by rw [e2, wr_1, if_neg hv]; exact g1 v i hv
        have g2' : T2.2 = T.2 := by rw [e2, wr_2]; exact g2
        have hM2 := MP_c hM g1'
        have t32 : T2.1 32 b = nI (srcR σ p b) - 1 := by rw [e2, wr_1, if_pos rfl, if_pos rfl]
        have t32' : ∀ i, i ≠ b → T2.1 32 i = T1.1 32 i := fun i hi => by rw [e2, wr_1, if_pos rfl, if_neg hi]
        have sl := srcR_le (σ := σ) (p := p) (b := b)
        have k118 : ∀ (t0 : Int32), t0 = nI (vl σ (srcR σ p b)) → vl σ (srcR σ p b) < 4 → bX7_isOrder_118 (itr (F := Int32 → St → Prop) (fun _ _ => False) (fun k67 x1 S => bX7_isOrder_67 k67 Q x1 S) (d + 1)) Q (nI b) t0 T2 := by
          intro t0 e0 hv
          refine ⟨hib, ?_⟩
          rw [cb, e0, (hM2.2.1 b hbn).2.2.2.1]
          have e36 : nI (vl σ (srcR σ p b)) = nI (σ 36 b) ↔ vl σ (srcR σ p b) = σ 36 b := nI_eq (by omega) (by omega)
          refine ⟨fun z2 => ?_, fun z2 => hN (fun o => z2 (e36.mpr (o.2.1 b hbn hr))) T2 g1' g2'⟩
          intro y e
          rw [e, nI_1]
          refine ih (b + 1) T2 (by omega) g1' g2' (fun i hi hri => ?_)
          by_cases q : i = b
          · subst q; exact ⟨t32, e36.mp z2⟩
          · rw [t32' i q]; exact o2 i (by omega) hri
        refine ⟨hib, ?_⟩
        rw [cb, t32]
        refine ⟨fun z2 => ?_, fun z2 => ?_⟩
        · have hs := (nu_nng (by omega)).mp z2
          rw [nu_pred (by omega), nu_cl (by omega), (hM2.2.1 _ (by omega)).2.2.2.2.1]
          have hv : vl σ (srcR σ p b) = σ 37 (srcR σ p b - 1) := by unfold vl; rw [if_neg hs]
          exact ⟨hib, nu_in (by omega) (by decide), k118 _ (by rw [hv]) (by rw [hv]; exact (hW.1.2.2.2 _ (by omega)).2.2.2.2.2.1)⟩
        · have hs : srcR σ p b = 0 := Classical.byContradiction (fun q => z2 ((nu_nng (by omega)).mpr q))
          have hv : vl σ (srcR σ p b) = 0 := by unfold vl; rw [if_pos hs]
          exact k118 0 (by rw [hv]; rfl) (by omega)
  -- the first loop
  obtain ⟨h13, hF, h31⟩ := hM
  have first : ∀ d a, a + d = σ 7 0 → (∀ a' b, a' < a → a' < b → b < σ 7 0 → (σ 43 b).testBit a' = true → ¬ p b < p a') → itr (F := Int32 → St → Prop) (fun _ _ => False) (fun k2 x1 S => bX7_isOrder_2 k2 Q x1 S) (d + 1) (nI a) T := by
    intro d
    induction d with
    | zero =>
      intro a ha o1
      have : a = σ 7 0 := by omega
      subst this
      exact ⟨fun _ => ⟨σ 7 0 + 1, second (fun a b hab hb => o1 a b (by omega) hab hb) (σ 7 0) 0 T (by omega) (fun _ _ _ => rfl) rfl (fun i h => absurd h (Nat.not_lt_zero _))⟩, fun z => absurd (by rw [h13]; exact nI_le (by omega) (by omega)) z⟩
    | succ d ih =>
      intro a ha o1
      have han : a < σ 7 0 := by omega
      have hia : vp_in (nI a) 6 := nu_in (by omega) (by decide)
      have ca : (nI a).toNatClampNeg = a := nu_cl (by omega)
      have pa := hC.1 a han
      refine ⟨fun z => by rw [h13, nI_leI (by omega) (by omega)] at z; omega, fun _ y45 e45 => ⟨σ 7 0 - (a + 1) + 1, ?_⟩⟩
      rw [e45, nI_1]
      have inner : ∀ c b, b + c = σ 7 0 → a < b → (∀ b', a < b' → b' < b → (σ 43 b').testBit a = true → ¬ p b' < p a) → itr (F := Int32 → Int32 → St → Prop) (fun _ _ _ => False) (fun k14 x1 x2 S => bX7_isOrder_14 (itr (F := Int32 → St → Prop) (fun _ _ => False) (fun k2 x1 S => bX7_isOrder_2 k2 Q x1 S) (d + 1)) k14 Q x1 x2 S) (c + 1) (nI a) (nI b) T := by
        intro c
        induction c with
        | zero =>
          intro b hb hab o2
          have : b = σ 7 0 := by omega
          subst this
          refine ⟨fun _ y e => ?_, fun z => absurd (by rw [h13]; exact nI_le (by omega) (by omega)) z⟩
          rw [e, nI_1]
          refine ih (a + 1) (by omega) (fun a' b' h1 h2 h3 => ?_)
          by_cases z : a' = a
          · subst z; exact o2 b' h2 h3
          · exact o1 a' b' (by omega) h2 h3
        | succ c ihc =>
          intro b hb hab o2
          have hbn : b < σ 7 0 := by omega
          have hib : vp_in (nI b) 6 := nu_in (by omega) (by decide)
          have cb : (nI b).toNatClampNeg = b := nu_cl (by omega)
          have pb := hC.1 b hbn
          have nx : ¬ ((σ 43 b).testBit a = true ∧ p b < p a) → bX7_isOrder_53 (itr (F := Int32 → St → Prop) (fun _ _ => False) (fun k2 x1 S => bX7_isOrder_2 k2 Q x1 S) (d + 1)) (itr (F := Int32 → Int32 → St → Prop) (fun _ _ _ => False) (fun k14 x1 x2 S => bX7_isOrder_14 (itr (F := Int32 → St → Prop) (fun _ _ => False) (fun k2 x1 S => bX7_isOrder_2 k2 Q x1 S) (d + 1)) k14 Q x1 x2 S) (c + 1)) Q (nI a) (nI b) T := by
            intro h y e
            rw [e, nI_1]
            refine ihc (b + 1) (by omega) (by omega) (fun b' h1 h2 h3 h4 => ?_)
            by_cases z : b' = b
            · subst z; exact h ⟨h3, h4⟩
            · exact o2 b' h1 (by omega) h3 h4
          have ix : (6 : Int32) * nI a + nI b = nI (6 * a + b) := by
            rw [show (6 : Int32) = nI 6 from rfl, pk_mul, nI_add]
          have ep : nI (p a) ≤ nI (p b) ↔ p a ≤ p b := nI_leI (by omega) (by omega)
          refine ⟨fun z => by rw [h13, nI_leI (by omega) (by omega)] at z; omega, fun _ => ?_⟩
          rw [ix, nu_cl (by omega), ca, cb, h29 a b han hbn, h31 a han, h31 b hbn]
          refine ⟨nu_in (by omega) (by decide), fun z => nx (fun q => by rw [q.1] at z; exact absurd z (by decide)), fun z => ⟨hia, hib, fun z2 => nx (fun q => by have := ep.mp z2; omega), fun z2 => hN (fun o => o.1 a b hab hbn ((zI_1 _).mp z) ?_) T (fun _ _ _ => rfl) rfl⟩⟩
          rcases Nat.lt_or_ge (p b) (p a) with q | q
          · exact q
          · exact absurd (ep.mpr q) z2
      exact inner (σ 7 0 - (a + 1)) (a + 1) (by omega) (by omega) (fun b' h1 h2 => by omega)
  exact ⟨σ 7 0 + 1, first (σ 7 0) 0 (by omega) (fun a' b h => absurd h (Nat.not_lt_zero _))⟩
end MIO5
