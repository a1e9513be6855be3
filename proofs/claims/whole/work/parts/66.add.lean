/-! add, in the reference; find; all calls -/
theorem m_numbersOf {k : Nat} {Q : Int32 → Prop} (hk : k < 11) (hQ : Q (nI (lnK k))) : pX7_numbersOf (nI k) Q := by
  have e : ∀ c, c < 11 → (nI k = nI c ↔ k = c) := fun c hc => nI_eq (by omega) (by omega)
  have e2 : nI k = (2 : Int32) ↔ k = 2 := e 2 (by decide)
  have e3 : nI k = (3 : Int32) ↔ k = 3 := e 3 (by decide)
  have e5 : nI k = (5 : Int32) ↔ k = 5 := e 5 (by decide)
  have e8 : nI k = (8 : Int32) ↔ k = 8 := e 8 (by decide)
  have e9 : nI k = (9 : Int32) ↔ k = 9 := e 9 (by decide)
  have e6 : (6 : Int32) ≤ nI k ↔ 6 ≤ k := nI_leI (a := 6) (by decide) (by omega)
  unfold pX7_numbersOf
  rw [e2, e3, e5, e8, e9, e6]
  refine ⟨fun z => ?_, fun z => ⟨fun z2 => ?_, fun z2 => ⟨fun z3 => ⟨fun z4 => ⟨fun z5 => ?_, fun z5 => ⟨fun z6 => ?_, fun z6 => ?_⟩⟩, fun z4 => ?_⟩, fun z3 => ?_⟩⟩⟩
  · subst z; exact hQ
  · subst z2; exact hQ
  · subst z5; exact hQ
  · rcases (show k = 6 ∨ k = 7 ∨ k = 10 by omega) with rfl | rfl | rfl <;> exact hQ
  · subst z6; exact hQ
  · rcases (show k = 0 ∨ k = 1 ∨ k = 4 by omega) with rfl | rfl | rfl <;> exact hQ
  · subst z3; exact hQ
section ADM
variable {mo : Nat} {P : Nat → Nat → Nat → Nat} {L : Nat → Nat} {fo : Bool}
theorem m_add {x1 : Int32} {x : Nat → Int32} {T : St} {Q : Int32 → St → Prop} (hA : OKA mo P L) (h : MI mo P L fo T)
    (hB : ((x1 < 0 ∨ nI 4 ≤ x1) ∨ (∀ k, k < 11 → x 0 = nI k → ¬ gdP k x)) → Q (-2) T)
    (hF : ∀ a k, x1 = nI a → a < 4 → k < 11 → x 0 = nI k → gdP k x → FUL P L a k → Q (-3) T)
    (hG : ∀ a k, x1 = nI a → a < 4 → k < 11 → x 0 = nI k → gdP k x → ¬ FUL P L a k → ∀ T', MI mo (aP P a (L a) (ux k x)) (aL L a) false T' → Q (nI (L a)) T') : pX7_add x1 (x 0) (x 1) (x 2) (x 3) (x 4) (x 5) T Q := by
  obtain ⟨h0, h1, h2, h3⟩ := h
  refine m_in0 (k := 3) (by decide) rfl (fun qa => ⟨fun z => absurd z (by decide), fun _ => ?_⟩) (fun q => ⟨fun _ => hB (Or.inl q), fun y => absurd rfl y⟩)
  obtain ⟨a, ea, ha⟩ := qa
  refine m_good (fun k hk ek hg => ⟨fun _ => ?_, fun y => absurd y (by decide)⟩) (fun q => ⟨fun y => absurd rfl y, fun _ => hB (Or.inr q)⟩)
  have hl := hA.2.1.1 a ha
  have c6 := hA.2.1.2.2
  rw [acR_cm] at c6
  have c4 := hA.2.2
  have ca : x1.toNatClampNeg = a := by rw [ea, nu_cl (by omega)]
  have hia : vp_in x1 4 := by rw [ea]; exact nu_in ha (by decide)
  have ln := (frm_lt k hk).2
  have ln2 : 2 ≤ lnK k := by
    have : ∀ k, k < 11 → 2 ≤ lnK k := by decide
    exact this k hk
  refine ⟨hia, fun y30 e30 => ?_⟩
  rw [ca, (h1.1 a ha).1] at e30
  rw [e30]
  have full : FUL P L a k → bX7_add_75 Q T := fun q => hF a k ea ha hk ek hg q
  -- it goes in
  have k78 : ¬ FUL P L a k → bX7_add_78 Q x1 (x 0) (x 1) (x 2) (x 3) (x 4) (x 5) (nI (L a)) T := by
    intro nf y13 e13
    have l6 : L a ≠ 6 := fun w => nf (Or.inl w)
    rw [ea, nu_36] at e13
    rw [ek]
    refine m_numbersOf hk ?_
    obtain ⟨b, eb⟩ : ∃ b, b = 36 * a + 6 * L a := ⟨_, rfl⟩
    have hb : b + 6 ≤ 144 := by omega
    rw [← eb] at e13
    rw [e13, show (1 : Int32) = nI 1 from rfl, show (2 : Int32) = nI 2 from rfl, show (3 : Int32) = nI 3 from rfl, nI_add, nI_add, nI_add]
    have hin : ∀ j, j < 6 → vp_in (nI (b + j)) 144 := fun j hj => nu_in (by omega) (by decide)
    have cl : ∀ j, j < 6 → (nI (b + j)).toNatClampNeg = b + j := fun j hj => nu_cl (by omega)
    have cl0 : (nI b).toNatClampNeg = b := nu_cl (by omega)
    -- the last
    have fin : ∀ (T6 : St), (∀ v i, v ≠ 1 → T6.1 v i = T.1 v i) → (∀ i, (∀ j, j < 6 → i ≠ b + j) → T6.1 1 i = T.1 1 i) → (∀ j, j < 5 → T6.1 1 (b + j) = rwX k x j) → ∀ t2, t2 = rwX k x 5 → bX7_add_187 Q x1 (nI (L a)) (nI b + (5 : Int32)) t2 T6 := by
      intro T6 g1 g2 g3 t2 et
      rw [show (5 : Int32) = nI 5 from rfl, nI_add]
      refine ⟨hin 5 (by decide), fun T7 e7 => ⟨hia, hia, fun T8 e8 T9 e9 => ?_⟩⟩
      rw [cl 5 (by decide)] at e7
      rw [ca] at e8
      have f : ∀ v i, v ≠ 1 → v ≠ 2 → v ≠ 3 → T9.1 v i = T.1 v i := fun v i q1 q2 q3 => by rw [e9, wr_1, if_neg q3, e8, wr_1, if_neg q2, e7, wr_1, if_neg q1]; exact g1 v i q1
      have f1 : ∀ i, T9.1 1 i = if i = b + 5 then rwX k x 5 else T6.1 1 i := fun i => by rw [e9, wr_1, if_neg (by decide), e8, wr_1, if_neg (by decide), e7, wr_1, if_pos rfl, et]
      have f2 : ∀ i, T9.1 2 i = if i = a then nI (L a + 1) else T.1 2 i := fun i => by
        have t7 : ∀ i, T7.1 2 i = T.1 2 i := fun i => by rw [e7, wr_1, if_neg (by decide)]; exact g1 2 i (by decide)
        rw [e9, wr_1, if_neg (by decide), e8, wr_1, if_pos rfl, t7, t7]
        by_cases q : i = a
        · rw [if_pos q, if_pos q, (h1.1 a ha).1, nI_1]
        · rw [if_neg q, if_neg q]
      have new : ∀ j, j < 6 → T9.1 1 (b + j) = rwX k x j := fun j hj => by
        rw [f1]
        by_cases q : j = 5
        · rw [if_pos (by omega), q]
        · rw [if_neg (by omega)]; exact g3 j (by omega)
      have old : ∀ i, (∀ j, j < 6 → i ≠ b + j) → T9.1 1 i = T.1 1 i := fun i hi => by
        rw [f1, if_neg (hi 5 (by decide))]; exact g2 i hi
      refine hG a k ea ha hk ek hg nf T9 ⟨by rw [f _ _ (by decide) (by decide) (by decide)]; exact h0, ⟨fun h' hh => ?_, fun h' hh i hi => ?_, (OKA_add hA ha hk ek hg nf).2.1.2.2⟩, by rw [e9, wr_1, if_pos rfl, if_pos rfl]; rfl, fun q => by cases q⟩
      · rw [f2]
        have := (OKA_add hA ha hk ek hg nf).2.1.1 h' hh
        refine ⟨?_, this⟩
        unfold aL
        by_cases q : h' = a
        · rw [if_pos q, if_pos q]
        · rw [if_neg q, if_neg q]; exact (h1.1 h' hh).1
      · refine ⟨(OKA_add hA ha hk ek hg nf).2.1.2.1 h' hh i hi, fun j hj => ?_⟩
        by_cases q : h' = a ∧ i = L a
        · have ep : aP P a (L a) (ux k x) h' i = ux k x := by unfold aP; rw [if_pos q]
          rw [ep, ux_0, q.1, q.2, ← eb, new j hj]
          exact (ux_dc hk ek hg).2 j hj
        · have ep : aP P a (L a) (ux k x) h' i = P h' i := by unfold aP; rw [if_neg q]
          have hi' : i < L h' := by
            unfold aL at hi
            by_cases e : h' = a
            · subst e
              rw [if_pos rfl] at hi
              have : ¬ i = L h' := fun w => q ⟨rfl, w⟩
              omega
            · rw [if_neg e] at hi; exact hi
          have := hA.2.1.1 h' hh
          rw [ep, old (36 * h' + 6 * i + j) (fun j' hj' w => q ⟨by omega, by omega⟩)]
          exact (h1.2.1 h' hh i hi').2 j hj
    have k166 : ∀ (T5 : St), (∀ v i, v ≠ 1 → T5.1 v i = T.1 v i) → (∀ i, (∀ j, j < 6 → i ≠ b + j) → T5.1 1 i = T.1 1 i) → (∀ j, j < 4 → T5.1 1 (b + j) = rwX k x j) → ∀ t2, t2 = rwX k x 4 → bX7_add_166 Q x1 (x 5) (nI (L a)) (nI b) (nI (lnK k)) (nI b + (4 : Int32)) t2 T5 := by
      intro T5 g1 g2 g3 t2 et
      rw [show (4 : Int32) = nI 4 from rfl, nI_add]
      refine ⟨hin 4 (by decide), fun T6 e6 => ?_⟩
      rw [cl 4 (by decide)] at e6
      have a1 : ∀ v i, v ≠ 1 → T6.1 v i = T.1 v i := fun v i hv => by rw [e6, wr_1, if_neg hv]; exact g1 v i hv
      have a2 : ∀ i, (∀ j, j < 6 → i ≠ b + j) → T6.1 1 i = T.1 1 i := fun i hi => by rw [e6, wr_1, if_pos rfl, if_neg (hi 4 (by decide))]; exact g2 i hi
      have a3 : ∀ j, j < 5 → T6.1 1 (b + j) = rwX k x j := fun j hj => by
        rw [e6, wr_1, if_pos rfl]
        by_cases q : j = 4
        · rw [if_pos (by omega), et, q]
        · rw [if_neg (by omega)]; exact g3 j (by omega)
      have ec : nI (lnK k) ≤ (4 : Int32) ↔ lnK k ≤ 4 := nI_leI (by omega) (by decide)
      refine ⟨fun z => fin T6 a1 a2 a3 0 ?_, fun z => fin T6 a1 a2 a3 _ ?_⟩
      · have := ec.mp z
        unfold rwX; rw [if_neg (by omega)]
      · have : ¬ lnK k ≤ 4 := fun w => z (ec.mpr w)
        unfold rwX; rw [if_pos (by omega)]
    have k145 : ∀ (T5 : St), (∀ v i, v ≠ 1 → T5.1 v i = T.1 v i) → (∀ i, (∀ j, j < 6 → i ≠ b + j) → T5.1 1 i = T.1 1 i) → (∀ j, j < 3 → T5.1 1 (b + j) = rwX k x j) → ∀ t2, t2 = rwX k x 3 → bX7_add_145 Q x1 (x 4) (x 5) (nI (L a)) (nI b) (nI (lnK k)) (nI (b + 3)) t2 T5 := by
      intro T5 g1 g2 g3 t2 et
      refine ⟨hin 3 (by decide), fun T6 e6 => ?_⟩
      rw [cl 3 (by decide)] at e6
      have a1 : ∀ v i, v ≠ 1 → T6.1 v i = T.1 v i := fun v i hv => by rw [e6, wr_1, if_neg hv]; exact g1 v i hv
      have a2 : ∀ i, (∀ j, j < 6 → i ≠ b + j) → T6.1 1 i = T.1 1 i := fun i hi => by rw [e6, wr_1, if_pos rfl, if_neg (hi 3 (by decide))]; exact g2 i hi
      have a3 : ∀ j, j < 4 → T6.1 1 (b + j) = rwX k x j := fun j hj => by
        rw [e6, wr_1, if_pos rfl]
        by_cases q : j = 3
        · rw [if_pos (by omega), et, q]
        · rw [if_neg (by omega)]; exact g3 j (by omega)
      have ec : nI (lnK k) ≤ (3 : Int32) ↔ lnK k ≤ 3 := nI_leI (by omega) (by decide)
      refine ⟨fun z => k166 T6 a1 a2 a3 0 ?_, fun z => k166 T6 a1 a2 a3 _ ?_⟩
      · have := ec.mp z
        unfold rwX; rw [if_neg (by omega)]
      · have : ¬ lnK k ≤ 3 := fun w => z (ec.mpr w)
        unfold rwX; rw [if_pos (by omega)]
    refine ⟨nu_in (by omega) (by decide), fun T3 e3 => ⟨hin 1 (by decide), fun T4 e4 => ⟨hin 2 (by decide), fun T5 e5 => ?_⟩⟩⟩
    rw [cl0] at e3
    rw [cl 1 (by decide)] at e4
    rw [cl 2 (by decide)] at e5
    have a1 : ∀ v i, v ≠ 1 → T5.1 v i = T.1 v i := fun v i hv => by rw [e5, wr_1, if_neg hv, e4, wr_1, if_neg hv, e3, wr_1, if_neg hv]
    have a2 : ∀ i, (∀ j, j < 6 → i ≠ b + j) → T5.1 1 i = T.1 1 i := fun i hi => by rw [e5, wr_1, if_pos rfl, if_neg (hi 2 (by decide)), e4, wr_1, if_pos rfl, if_neg (hi 1 (by decide)), e3, wr_1, if_pos rfl, if_neg (show ¬ i = b from hi 0 (by decide))]
    have a3 : ∀ j, j < 3 → T5.1 1 (b + j) = rwX k x j := fun j hj => by
      have er : rwX k x j = x j := by unfold rwX; rw [if_pos (by omega)]
      rw [er, e5, wr_1, if_pos rfl]
      rcases (show j = 0 ∨ j = 1 ∨ j = 2 by omega) with rfl | rfl | rfl
      · rw [if_neg (by omega), e4, wr_1, if_pos rfl, if_neg (by omega), e3, wr_1, if_pos rfl, if_pos (by omega)]; exact ek.symm
      · rw [if_neg (by omega), e4, wr_1, if_pos rfl, if_pos rfl]
      · rw [if_pos rfl]
    have ec : nI (lnK k) ≤ nI 2 ↔ lnK k ≤ 2 := nI_leI (by omega) (by decide)
    refine ⟨fun z => k145 T5 a1 a2 a3 0 ?_, fun z => k145 T5 a1 a2 a3 _ ?_⟩
    · have := ec.mp z
      unfold rwX; rw [if_neg (by omega)]
    · have : ¬ lnK k ≤ 2 := fun w => z (ec.mpr w)
      unfold rwX; rw [if_pos (by omega)]
  have k59 : L a ≠ 6 → ¬ (k < 6 ∧ cmR (fun k => decide (k < 6)) P L 4 = 6) → bX7_add_59 Q x1 (x 0) (x 1) (x 2) (x 3) (x 4) (x 5) (nI (L a)) T := by
    intro n1 n2
    unfold bX7_add_59
    rw [ek]
    refine m_isReading hk ⟨fun z => ?_, fun z => ?_⟩
    · have := k78 (fun q => by
        rcases q with q | q | q
        · exact n1 q
        · exact n2 q
        · rw [q.1] at z; exact absurd z (by decide))
      rw [ek] at this; exact this
    · refine m_instructions (w := 2) (Or.inr (Or.inr ⟨rfl, rfl⟩)) h1 ?_
      have ec : nI (cmR rdK P L 4) = (4 : Int32) ↔ cmR rdK P L 4 = 4 := nu_eqL rfl (by omega) (by decide)
      refine ⟨fun z2 => ?_, fun z2 => full (Or.inr (Or.inr ⟨(zI_1 _).mp z, ec.mp z2⟩))⟩
      have := k78 (fun q => by
        rcases q with q | q | q
        · exact n1 q
        · exact n2 q
        · exact z2 (ec.mpr q.2))
      rw [ek] at this; exact this
  have e6 : nI (L a) = (6 : Int32) ↔ L a = 6 := nu_eqL rfl (by omega) (by decide)
  refine ⟨fun z => full (Or.inl (e6.mp z)), fun z => ⟨fun z2 => k59 (fun w => z (e6.mpr w)) (fun w => ?_), fun z2 => ?_⟩⟩
  · rw [ek, show (6 : Int32) = nI 6 from rfl, nI_leI (by decide) (by omega)] at z2; omega
  · refine m_instructions (w := 1) (Or.inr (Or.inl ⟨rfl, rfl⟩)) h1 ?_
    have ec : nI (cmR (fun k => decide (k < 6)) P L 4) = (6 : Int32) ↔ cmR (fun k => decide (k < 6)) P L 4 = 6 := nu_eqL rfl (by omega) (by decide)
    rw [ek, show (6 : Int32) = nI 6 from rfl, nI_leI (by decide) (by omega)] at z2
    exact ⟨fun z3 => full (Or.inr (Or.inl ⟨by omega, ec.mp z3⟩)), fun z3 => k59 (fun w => z (e6.mpr w)) (fun w => z3 (ec.mpr w.2))⟩
theorem st_add {x1 x2 x3 x4 x5 x6 x7 : Int32} (hA : OKA mo P L) : STEP mo P L fo (fun _ S Q => pX6_add x1 x2 x3 x4 x5 x6 x7 S Q) (fun T Q => pX7_add x1 x2 x3 x4 x5 x6 x7 T Q) := by
  obtain ⟨x, ex⟩ : ∃ x : Nat → Int32, x = fun j => if j = 0 then x2 else if j = 1 then x3 else if j = 2 then x4 else if j = 3 then x5 else if j = 4 then x6 else x7 := ⟨_, rfl⟩
  have e0 : x2 = x 0 := by rw [ex]; rfl
  have e1 : x3 = x 1 := by rw [ex]; rfl
  have e2 : x4 = x 2 := by rw [ex]; rfl
  have e3 : x5 = x 3 := by rw [ex]; rfl
  have e4 : x6 = x 4 := by rw [ex]; rfl
  have e5 : x7 = x 5 := by rw [ex]; rfl
  clear ex
  subst e0 e1 e2 e3 e4 e5
  have uq : ∀ {a a' : Nat}, a < 11 → a' < 11 → nI a = nI a' → a = a' := fun ha ha' e => (nI_eq (by omega) (by omega)).mp e
  by_cases b : (x1 < 0 ∨ nI 4 ≤ x1) ∨ (∀ k, k < 11 → x 0 = nI k → ¬ gdP k x)
  · have no : ∀ a k, x1 = nI a → a < 4 → k < 11 → x 0 = nI k → gdP k x → False := by
      intro a k ea ha hk ek hg
      rcases b with b | b
      · exact i_no (by decide) ⟨a, ea, ha⟩ b
      · exact b k hk ek hg
    refine ⟨-2, mo, P, L, fo, hA, fun n S h => c_add hA h (fun _ S' h' => ⟨rfl, h'⟩) (fun a k ea ha hk ek hg => absurd (no a k ea ha hk ek hg) id) (fun a k ea ha hk ek hg => absurd (no a k ea ha hk ek hg) id), fun T h => m_add hA h (fun _ => ⟨rfl, h⟩) (fun a k ea ha hk ek hg => absurd (no a k ea ha hk ek hg) id) (fun a k ea ha hk ek hg => absurd (no a k ea ha hk ek hg) id)⟩
  · have b1 : ¬ (x1 < 0 ∨ nI 4 ≤ x1) := fun q => b (Or.inl q)
    obtain ⟨a, ea, ha⟩ := (i_rng (x := x1) (k := 4) (by decide)).resolve_left b1
    obtain ⟨k, hk, ek, hg⟩ : ∃ k, k < 11 ∧ x 0 = nI k ∧ gdP k x := Classical.byContradiction (fun q => b (Or.inr (fun k hk ek hg => q ⟨k, hk, ek, hg⟩)))
    by_cases f : FUL P L a k
    · refine ⟨-3, mo, P, L, fo, hA, fun n S h => c_add hA h (fun q => absurd q b) (fun a' k' ea' ha' hk' ek' hg' hf' S' h' => ⟨rfl, h'⟩) (fun a' k' ea' ha' hk' ek' hg' hf' => ?_), fun T h => m_add hA h (fun q => absurd q b) (fun a' k' ea' ha' hk' ek' hg' hf' => ⟨rfl, h⟩) (fun a' k' ea' ha' hk' ek' hg' hf' => ?_)⟩
      · rw [ea] at ea'; rw [ek] at ek'
        rw [← uq (by omega) (by omega) ea', ← uq hk hk' ek'] at hf'
        exact absurd f hf'
      · rw [ea] at ea'; rw [ek] at ek'
        rw [← uq (by omega) (by omega) ea', ← uq hk hk' ek'] at hf'
        exact absurd f hf'
    · refine ⟨nI (L a), mo, aP P a (L a) (ux k x), aL L a, false, OKA_add hA ha hk ek hg f, fun n S h => c_add hA h (fun q => absurd q b) (fun a' k' ea' ha' hk' ek' hg' hf' => ?_) (fun a' k' ea' ha' hk' ek' hg' hf' S' h' => ?_), fun T h => m_add hA h (fun q => absurd q b) (fun a' k' ea' ha' hk' ek' hg' hf' => ?_) (fun a' k' ea' ha' hk' ek' hg' hf' T' h' => ?_)⟩
      · rw [ea] at ea'; rw [ek] at ek'
        rw [← uq (by omega) (by omega) ea', ← uq hk hk' ek'] at hf'
        exact absurd hf' f
      · rw [ea] at ea'; rw [ek] at ek'
        rw [← uq (by omega) (by omega) ea', ← uq hk hk' ek'] at h'
        exact ⟨by rw [← uq (by omega) (by omega) ea'], h'⟩
      · rw [ea] at ea'; rw [ek] at ek'
        rw [← uq (by omega) (by omega) ea', ← uq hk hk' ek'] at hf'
        exact absurd hf' f
      · rw [ea] at ea'; rw [ek] at ek'
        rw [← uq (by omega) (by omega) ea', ← uq hk hk' ek'] at h'
        exact ⟨by rw [← uq (by omega) (by omega) ea'], h'⟩
/-- how many places the row of outcomes has after find -/
noncomputable def nF (mo : Nat) (P : Nat → Nat → Nat → Nat) (L : Nat → Nat) (fo : Bool) (n : Nat) : Nat := if fo = true then n else cp n (FN mo P L).1.length
theorem nF_ge {n : Nat} : n ≤ nF mo P L fo n := by
  unfold nF
  split
  · exact Nat.le_refl _
  · exact cp_ge _ _
theorem nF_C {n : Nat} (h : IsC n) : IsC (nF mo P L fo n) := by
  unfold nF
  split
  · exact h
  · exact cp_C h
theorem st_find (hA : OKA mo P L) : ∃ r : Int32, (∀ n S, XI mo P L fo n S → pX6_find n (nF mo P L fo n) S (fun r' S' => r' = r ∧ XI mo P L true (nF mo P L fo n) S')) ∧ (∀ T, MI mo P L fo T → pX7_find T (fun r' T' => r' = r ∧ MI mo P L true T')) := by
  obtain ⟨hb1, hb2, hb3⟩ := FN_b (mo := mo) hA.2.1
  refine ⟨nI (FN mo P L).1.length, fun n S h => ?_, fun T h => ?_⟩
  · obtain ⟨h0, h1, h2, h3, h4, h5, h6⟩ := h
    cases fo with
    | true =>
      obtain ⟨k1, k2, k3⟩ := h6 rfl
      refine ⟨fun z => absurd z (by rw [h4]; decide), fun _ => ⟨rfl, k1.1, h0, h1, h2, h3, h4, h5, fun _ => ⟨k1, k2, k3⟩⟩⟩
    | false =>
      refine c_find h1 hA.1 h0 h5 h4 rfl (fun S' g1 g2 g3 g4 g5 => ⟨rfl, by rw [g1 _ _ (by decide)]; exact h0, PR_c h1 (fun i => g1 20 i (by decide)) g2, by rw [g1 _ _ (by decide)]; exact h2, by rw [g1 _ _ (by decide)]; exact h3, g3, nF_C h5, fun _ => ⟨g5, g4, ?_⟩⟩)
      exact cp_k (by omega)
  · obtain ⟨h0, h1, h2, h3⟩ := h
    cases fo with
    | true =>
      obtain ⟨k1, k2⟩ := h3 rfl
      exact ⟨fun z => absurd z (by rw [h2]; decide), fun _ => ⟨k1.1, h0, h1, h2, fun _ => ⟨k1, k2⟩⟩⟩
    | false =>
      exact m_find h1 hA.1 h0 h2 (fun T' g1 g2 g3 g4 => ⟨rfl, by rw [g1 _ _ (by decide)]; exact h0, PM_c h1 g1, g2, fun _ => ⟨g4, g3⟩⟩)
end ADM
