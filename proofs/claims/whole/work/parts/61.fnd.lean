/-! find -/
theorem PR_c {P : Nat → Nat → Nat → Nat} {L : Nat → Nat} {S S' : St} (h : PR P L S) (e20 : ∀ i, S'.1 20 i = S.1 20 i) (e2 : S'.2.1 = S.2.1) : PR P L S' := by
  refine ⟨fun h' hh => by rw [e20]; exact h.1 h' hh, fun h' hh i hi => ⟨(h.2.1 h' hh i hi).1, fun j hj => by rw [e2]; exact (h.2.1 h' hh i hi).2 j hj⟩, h.2.2⟩
theorem PM_c {P : Nat → Nat → Nat → Nat} {L : Nat → Nat} {T T' : St} (h : PM P L T) (e : ∀ v i, v ≤ 2 → T'.1 v i = T.1 v i) : PM P L T' := by
  refine ⟨fun h' hh => by rw [e _ _ (by decide)]; exact h.1 h' hh, fun h' hh i hi => ⟨(h.2.1 h' hh i hi).1, fun j hj => by rw [e _ _ (by decide)]; exact (h.2.1 h' hh i hi).2 j hj⟩, h.2.2⟩
theorem PR_PP {P : Nat → Nat → Nat → Nat} {L : Nat → Nat} {S : St} (h : PR P L S) : PP P L := ⟨fun h' hh => (h.1 h' hh).2, fun h' hh i hi => (h.2.1 h' hh i hi).1, h.2.2⟩
theorem PM_PP {P : Nat → Nat → Nat → Nat} {L : Nat → Nat} {T : St} (h : PM P L T) : PP P L := ⟨fun h' hh => (h.1 h' hh).2, fun h' hh i hi => (h.2.1 h' hh i hi).1, h.2.2⟩
/-- all that find finds -/
noncomputable def FN (mo : Nat) (P : Nat → Nat → Nat → Nat) (L : Nat → Nat) : List Int64 × Nat := fnd mo P L 4096 0 (fun _ => 0) (fun _ => 0) [] 0
theorem FN_b {mo : Nat} {P : Nat → Nat → Nat → Nat} {L : Nat → Nat} (hP : PP P L) : SL (FN mo P L).1 ∧ (FN mo P L).1.length ≤ 36864 ∧ (FN mo P L).2 ≤ 4096 := by
  obtain ⟨a, b, c, -⟩ := fnd_b (mo := mo) hP 4096 0 (fun _ => 0) (fun _ => 0) [] 0 OI_0 List.Pairwise.nil (Nat.zero_le _) (Nat.zero_le _)
  exact ⟨a, by unfold FN; omega, c⟩
section FND
variable {mo : Nat} {P : Nat → Nat → Nat → Nat} {L : Nat → Nat}
theorem c_find {n0 n2 : Nat} {S : St} {Q : Int32 → St → Prop} (hPR : PR P L S) (hmo : mo < 3) (s0 : S.1 0 0 = nI mo) (hc : IsC n0) (s2 : S.1 2 0 = 0) (en : n2 = cp n0 (FN mo P L).1.length)
    (hQ : ∀ S', (∀ v i, (v = 0 ∨ v = 3 ∨ v = 4 ∨ v = 20 ∨ v = 21) → S'.1 v i = S.1 v i) → S'.2.1 = S.2.1 → S'.1 2 0 = 1 → S'.1 1 0 = nI (FN mo P L).2 → KR S' (FN mo P L).1 → Q (nI (FN mo P L).1.length) S') : pX6_find n0 n2 S Q := by
  have hP := PR_PP hPR
  have loop : ∀ (f K : Nat) (ch l0 : Nat → Nat) (l : List Int64) (w x2 : Nat) (S1 : St), 4096 ≤ rk ch + f → OI mo P L K ch l0 → x2 ≤ rk ch → w ≤ x2 → (∀ v i, (v = 0 ∨ v = 3 ∨ v = 4 ∨ v = 20 ∨ v = 21) → S1.1 v i = S.1 v i) → S1.2.1 = S.2.1 → S1.1 5 0 = nI 0 → S1.1 6 0 = nI K → (∀ j, j < K → S1.1 22 j = nI (ch j) ∧ S1.1 23 j = nI (l0 j)) → KR S1 l → l.length ≤ 9 * w → S1.1 1 0 = nI w → fnd mo P L f K ch l0 l w = FN mo P L →
      itr (F := Int32 → Int32 → Nat → St → Prop) (fun _ _ _ _ => False) (fun k38 x1 x2 n S => bX6_find_38 n2 k38 Q x1 x2 n S) (f + 1) (1 : Int32) (nI x2) (cp n0 l.length) S1 := by
    intro f
    induction f with
    | zero =>
      intro K ch l0 l w x2 S1 hf hO
      have := rk_lt hO.2.1
      omega
    | succ f ih =>
      intro K ch l0 l w x2 S1 hf hO hx2 hwx g1 g2 t5 t6 t22 hK hlw t1 eF
      obtain ⟨hW, hFS, h6⟩ := PP_way (mo := mo) hP hO.2.1
      have r := rk_lt hO.2.1
      have hl := hK.2.2
      have fb := fnd_b (mo := mo) hP (f + 1) K ch l0 l w hO hl hlw (by omega)
      rw [eF] at fb
      rw [fnd] at eF
      obtain ⟨σ, eσ⟩ : ∃ σ, σ = aWay mo P L ch := ⟨_, rfl⟩
      rw [← eσ] at eF hW hFS h6
      obtain ⟨la, ela⟩ : ∃ la, la = lst ch (lmx K l0 σ) (σ 5 0) := ⟨_, rfl⟩
      rw [← ela] at eF
      have lal := lst_le ch (lmx K l0 σ) (σ 5 0)
      rw [← ela] at lal
      have c1 := cnt1 hW hl hlw
      have bb := b2n_le (!(XS σ).isEmpty)
      have hle := insL_le (σ := σ) (XS σ) l
      have l65 : (insL σ l (XS σ)).length ≤ 65536 := by omega
      have fle : (insL σ l (XS σ)).length ≤ (FN mo P L).1.length := by
        by_cases c : la = 0
        · rw [if_pos c] at eF; rw [← eF]; exact Nat.le_refl _
        · rw [if_neg c] at eF
          have ec : la ≠ 0 := c
          have oi := OI_next hO (by rw [← eσ]; exact h6) (la := la) (by rw [← eσ]; exact ela) c
          rw [← eσ] at oi
          have rn := rk_next hO.2.1 c (by omega)
          have := (fnd_b (mo := mo) hP f la (nch ch la) (lmx K l0 σ) (insL σ l (XS σ)) (w + b2n (!(XS σ).isEmpty)) oi (insL_SL _ _ hl) c1 (by omega)).2.2.2
          rw [eF] at this
          exact this
      -- on to the next way
      have nxt : ∀ (S9 : St), (∀ v i, (v = 0 ∨ v = 3 ∨ v = 4 ∨ v = 20 ∨ v = 21) → S9.1 v i = S.1 v i) → S9.2.1 = S.2.1 → S9.1 5 0 = nI (σ 5 0) → (∀ j, j < σ 5 0 → S9.1 22 j = nI (ch j) ∧ S9.1 23 j = nI (lmx K l0 σ j)) → KR S9 (insL σ l (XS σ)) → S9.1 1 0 = nI (w + b2n (!(XS σ).isEmpty)) → bX6_find_90 n2 (itr (F := Int32 → Int32 → Nat → St → Prop) (fun _ _ _ _ => False) (fun k38 x1 x2 n S => bX6_find_38 n2 k38 Q x1 x2 n S) (f + 1)) Q (nI x2) (cp n0 (insL σ l (XS σ)).length) S9 := by
        intro S9 q1 q2 q5 q22 qK q7
        refine c_advance h6 q5 q22 (fun j hj => ⟨hO.2.1 j, ?_⟩) (fun S' a1 a2 a3 a4 a5 y6 e6 => ?_)
        · have := (OI_lm hO (j := j) (by rw [← eσ]; exact hj)).2
          rw [← eσ] at this; exact this
        rw [← ela] at a4 a5 ⊢
        rw [e6, nI_1]
        have gg : ∀ v i, (v = 0 ∨ v = 3 ∨ v = 4 ∨ v = 20 ∨ v = 21) → S'.1 v i = S.1 v i := fun v i hv => by rw [a1 v i (by omega) (by omega) (by omega)]; exact q1 v i hv
        have kk : KR S' (insL σ l (XS σ)) := ⟨by rw [a1 _ _ (by decide) (by decide) (by decide)]; exact qK.1, by rw [a2]; exact qK.2.1, qK.2.2⟩
        have ww : S'.1 1 0 = nI (w + b2n (!(XS σ).isEmpty)) := by rw [a1 _ _ (by decide) (by decide) (by decide)]; exact q7
        by_cases c : la = 0
        · rw [if_pos c] at eF
          have e0 : zI (decide (la ≠ 0)) = 0 := by rw [c]; rfl
          rw [e0]
          refine ⟨fun _ S1 e1 => ?_, fun z => absurd rfl z⟩
          have k17 : S1.1 17 0 = nI (FN mo P L).1.length := by rw [e1, wr_1, if_neg (by decide), ← eF]; exact kk.1
          show cp n0 (insL σ l (XS σ)).length = n2 ∧ Q (S1.1 17 0) S1
          refine ⟨by rw [en, ← eF], ?_⟩
          rw [k17]
          refine hQ S1 (fun v i hv => by rw [e1, wr_1, if_neg (by omega)]; exact gg v i hv) (by rw [e1, wr_2, a2]; exact q2) (by rw [e1, wr_1, if_pos rfl, if_pos rfl]) (by rw [e1, wr_1, if_neg (by decide), ← eF]; exact ww) ?_
          rw [← eF]
          exact ⟨by rw [e1, wr_1, if_neg (by decide)]; exact kk.1, by rw [e1]; exact kk.2.1, kk.2.2⟩
        · rw [if_neg c] at eF
          have e1 : zI (decide (la ≠ 0)) = 1 := by rw [decide_eq_true c]; rfl
          rw [e1]
          have oi := OI_next hO (by rw [← eσ]; exact h6) (la := la) (by rw [← eσ]; exact ela) c
          rw [← eσ] at oi
          have rn := rk_next hO.2.1 c (by omega)
          refine ih la (nch ch la) (lmx K l0 σ) _ _ (x2 + 1) S' (by omega) oi (by omega) (by omega) gg (by rw [a2]; exact q2) a3 a4 (fun j hj => ⟨a5 j hj, ?_⟩) kk c1 ww eF
          rw [a1 _ _ (by decide) (by decide) (by decide)]
          exact (q22 j (by omega)).2
      refine ⟨fun z => absurd z (by decide), fun _ => ⟨fun z => ?_, fun _ => ?_⟩⟩
      · rw [show (4096 : Int32) = nI 4096 from rfl, nI_leI (by omega) (by omega)] at z; omega
      rw [g1 0 0 (by omega), s0]
      refine c_walk (PR_c hPR (fun i => g1 20 i (by omega)) g2) hO.1 hmo hO.2.1 t5 t6 t22 hO.2.2.1 (fun S7 hR => ?_)
      rw [← eσ] at hR
      obtain ⟨r1, r2, r3, r4, r5, r6, r7, r8, r9, r10, r11⟩ := hR
      have g7 : ∀ v i, (v = 0 ∨ v = 3 ∨ v = 4 ∨ v = 20 ∨ v = 21) → S7.1 v i = S.1 v i := by
        intro v i hv
        rw [r1 v i (by rcases hv with rfl | rfl | rfl | rfl | rfl <;> rfl)]; exact g1 v i hv
      have l22 : ∀ j, j < σ 5 0 → S7.1 22 j = nI (ch j) ∧ S7.1 23 j = nI (lmx K l0 σ j) := by
        intro j hj
        unfold lmx
        by_cases q : j < K
        · rw [if_pos q]; exact r9 j q
        · rw [if_neg q, hO.2.2.1 j (by omega)]; exact r11 j (by omega) hj
      have k7 : KR S7 l := ⟨by rw [r1 17 0 rfl]; exact hK.1, by rw [r2]; exact hK.2.1, hK.2.2⟩
      have w7 : S7.1 1 0 = nI w := by rw [r1 1 0 rfl]; exact t1
      refine c_plaus hW r5 r7 (fun hp => ⟨fun y => absurd y (by decide), fun _ => ?_⟩) (fun hp => ⟨fun _ => ?_, fun y => absurd rfl y⟩)
      · refine ⟨cp n0 (insL σ l (XS σ)).length, cp_mono hle, by rw [en]; exact cp_mono fle, ?_⟩
        refine c_search hW r5 r7 (fun k hk => (r6 k hk).1) k7 (cp_C hc) (cp_k (by omega)) l65 (cp_cp hle).symm (fun S8 a1 a2 a3 => ?_)
        have g8 : ∀ v i, (v = 0 ∨ v = 3 ∨ v = 4 ∨ v = 20 ∨ v = 21) → S8.1 v i = S.1 v i := fun v i hv => by rw [a1 v i (by omega) (by omega) (by omega) (by omega) (by omega)]; exact g7 v i hv
        have e2 : S8.2.1 = S.2.1 := by rw [a2, r2]; exact g2
        have e5 : S8.1 5 0 = nI (σ 5 0) := by rw [a1 _ _ (by decide) (by decide) (by decide) (by decide) (by decide)]; exact r4
        have e22 : ∀ j, j < σ 5 0 → S8.1 22 j = nI (ch j) ∧ S8.1 23 j = nI (lmx K l0 σ j) := fun j hj => by
          rw [a1 _ _ (by decide) (by decide) (by decide) (by decide) (by decide), a1 _ _ (by decide) (by decide) (by decide) (by decide) (by decide)]; exact l22 j hj
        have w8 : S8.1 1 0 = nI w := by rw [a1 _ _ (by decide) (by decide) (by decide) (by decide) (by decide)]; exact w7
        refine ⟨fun z => ?_, fun z S9 e9 => ?_⟩
        · have z' := (zI_0 _).mp z
          refine nxt S8 g8 e2 e5 e22 a3 ?_
          rw [z']; exact w8
        · have z' := (zI_1 _).mp z
          refine nxt S9 (fun v i hv => by rw [e9, wr_1, if_neg (by omega)]; exact g8 v i hv) (by rw [e9, wr_2]; exact e2) (by rw [e9, wr_1, if_neg (by decide)]; exact e5) (fun j hj => by rw [e9, wr_1, if_neg (by decide), wr_1, if_neg (by decide)]; exact e22 j hj) ⟨by rw [e9, wr_1, if_neg (by decide)]; exact a3.1, by rw [e9]; exact a3.2.1, a3.2.2⟩ ?_
          rw [z', e9, wr_1, if_pos rfl, if_pos rfl, w8, nI_1]; rfl
      · have e := XS_nil hW hp
        have ei : insL σ l (XS σ) = l := by rw [e]; rfl
        have := nxt S7 g7 (by rw [r2]; exact g2) r4 l22 (by rw [ei]; exact k7) (by rw [e]; exact w7)
        rw [ei] at this
        exact this
  refine ⟨fun _ S1 e1 S2 e2 S3 e3 S4 e4 => ⟨4096 + 1, ?_⟩, fun z => absurd s2 z⟩
  have f : ∀ v i, v ≠ 1 → v ≠ 5 → v ≠ 6 → v ≠ 17 → S4.1 v i = S.1 v i := fun v i a b c d => by rw [e4, wr_1, if_neg a, e3, wr_1, if_neg c, e2, wr_1, if_neg b, e1, wr_1, if_neg d]
  have := loop 4096 0 (fun _ => 0) (fun _ => 0) [] 0 0 S4 (by omega) OI_0 (Nat.zero_le _) (Nat.le_refl _) (fun v i hv => f v i (by omega) (by omega) (by omega) (by omega)) (by rw [e4, e3, e2, e1]; rfl) (by rw [e4, wr_1, if_neg (by decide), e3, wr_1, if_neg (by decide), e2, wr_1, if_pos rfl, if_pos rfl]; rfl) (by rw [e4, wr_1, if_neg (by decide), e3, wr_1, if_pos rfl, if_pos rfl]; rfl) (fun j h => absurd h (Nat.not_lt_zero _)) ⟨by rw [e4, wr_1, if_neg (by decide), e3, wr_1, if_neg (by decide), e2, wr_1, if_neg (by decide), e1, wr_1, if_pos rfl, if_pos rfl]; rfl, fun i h => absurd h (Nat.not_lt_zero _), List.Pairwise.nil⟩ (Nat.le_refl _) (by rw [e4, wr_1, if_pos rfl, if_pos rfl]; rfl) rfl
  rw [show cp n0 ([] : List Int64).length = n0 from cp_in hc (Nat.zero_le _)] at this
  exact this
theorem m_find {T : St} {Q : Int32 → St → Prop} (hPM : PM P L T) (hmo : mo < 3) (t0 : T.1 0 0 = nI mo) (t3 : T.1 3 0 = 0)
    (hQ : ∀ T', (∀ v i, v ≤ 2 → T'.1 v i = T.1 v i) → T'.1 3 0 = 1 → T'.1 6 0 = nI (FN mo P L).2 → KM T' (FN mo P L).1 → Q (nI (FN mo P L).1.length) T') : pX7_find T Q := by
  have hP := PM_PP hPM
  have loop : ∀ (f K : Nat) (ch l0 : Nat → Nat) (l : List Int64) (w : Nat) (T1 : St), 4096 ≤ rk ch + f → OI mo P L K ch l0 → w ≤ rk ch → (∀ v i, v ≤ 2 → T1.1 v i = T.1 v i) → T1.1 9 0 = nI K → (∀ j, j < K → T1.1 7 j = nI (ch j) ∧ T1.1 8 j = nI (l0 j)) → KM T1 l → l.length ≤ 9 * w → T1.1 6 0 = nI w → fnd mo P L f K ch l0 l w = FN mo P L →
      itr (F := Int32 → St → Prop) (fun _ _ => False) (fun k29 x1 S => bX7_find_29 k29 Q x1 S) (f + 1) (1 : Int32) T1 := by
    intro f
    induction f with
    | zero =>
      intro K ch l0 l w T1 hf hO
      have := rk_lt hO.2.1
      omega
    | succ f ih =>
      intro K ch l0 l w T1 hf hO hwx g1 t9 t7 hK hlw t6 eF
      obtain ⟨hW, hFS, h6⟩ := PP_way (mo := mo) hP hO.2.1
      have r := rk_lt hO.2.1
      have hl := hK.2.2
      rw [fnd] at eF
      have hKM := hO.2.2.2.2
      obtain ⟨σ, eσ⟩ : ∃ σ, σ = aWay mo P L ch := ⟨_, rfl⟩
      rw [← eσ] at eF hW hFS h6 hKM
      obtain ⟨la, ela⟩ : ∃ la, la = lst ch (lmx K l0 σ) (σ 5 0) := ⟨_, rfl⟩
      rw [← ela] at eF
      have lal := lst_le ch (lmx K l0 σ) (σ 5 0)
      rw [← ela] at lal
      have c1 := cnt1 hW hl hlw
      have bb := b2n_le (!(XS σ).isEmpty)
      obtain ⟨so1, so2⟩ := same_out hW hl
      have nxt : ∀ (T9 : St), (∀ v i, v ≤ 2 → T9.1 v i = T.1 v i) → T9.1 9 0 = nI (σ 5 0) → (∀ j, j < σ 5 0 → T9.1 7 j = nI (ch j) ∧ T9.1 8 j = nI (lmx K l0 σ j)) → KM T9 (insL σ l (XS σ)) → T9.1 6 0 = nI (w + b2n (!(XS σ).isEmpty)) → bX7_find_54 (itr (F := Int32 → St → Prop) (fun _ _ => False) (fun k29 x1 S => bX7_find_29 k29 Q x1 S) (f + 1)) Q T9 := by
        intro T9 q1 q9 q7 qK q6
        refine m_nextWay h6 q9 q7 (fun j hj => ?_) (fun T' a1 a2 a3 a4 => ?_)
        · have := OI_lm hO (j := j) (by rw [← eσ]; exact hj)
          rw [← eσ] at this; exact this
        rw [← ela] at a3 a4 ⊢
        have gg : ∀ v i, v ≤ 2 → T'.1 v i = T.1 v i := fun v i hv => by rw [a1 v i (by omega) (by omega)]; exact q1 v i hv
        have kk : KM T' (insL σ l (XS σ)) := ⟨by rw [a1 _ _ (by decide) (by decide)]; exact qK.1, by rw [a2]; exact qK.2.1, qK.2.2⟩
        have ww : T'.1 6 0 = nI (w + b2n (!(XS σ).isEmpty)) := by rw [a1 _ _ (by decide) (by decide)]; exact q6
        by_cases c : la = 0
        · rw [if_pos c] at eF
          have e0 : zI (decide (la ≠ 0)) = 0 := by rw [c]; rfl
          rw [e0]
          refine ⟨fun _ S3 e3 => ?_, fun z => absurd rfl z⟩
          have k5 : S3.1 5 0 = nI (FN mo P L).1.length := by rw [e3, wr_1, if_neg (by decide), ← eF]; exact kk.1
          rw [k5]
          refine hQ S3 (fun v i hv => by rw [e3, wr_1, if_neg (by omega)]; exact gg v i hv) (by rw [e3, wr_1, if_pos rfl, if_pos rfl]) (by rw [e3, wr_1, if_neg (by decide), ← eF]; exact ww) ?_
          rw [← eF]
          exact ⟨by rw [e3, wr_1, if_neg (by decide)]; exact kk.1, by rw [e3]; exact kk.2.1, kk.2.2⟩
        · rw [if_neg c] at eF
          have e1 : zI (decide (la ≠ 0)) = 1 := by rw [decide_eq_true c]; rfl
          rw [e1]
          have oi := OI_next hO (by rw [← eσ]; exact h6) (la := la) (by rw [← eσ]; exact ela) c
          rw [← eσ] at oi
          have rn := rk_next hO.2.1 c (by omega)
          refine ih la (nch ch la) (lmx K l0 σ) _ _ T' (by omega) oi (by omega) gg a3 (fun j hj => ⟨a4 j hj, ?_⟩) kk c1 ww eF
          rw [a1 _ _ (by decide) (by decide)]
          exact (q7 j (by omega)).2
      refine ⟨fun z => absurd z (by decide), fun _ => ?_⟩
      refine m_way (mo := mo) (PM_c hPM g1) hO.1 hO.2.1 t9 t7 hO.2.2.1 (fun T7 hR => ?_)
      rw [← eσ] at hR
      obtain ⟨r1, r2, r3, r4, r5, r6, r7, r8⟩ := hR
      have g7 : ∀ v i, v ≤ 2 → T7.1 v i = T.1 v i := fun v i hv => by
        rw [r1 v i (by rcases (show v = 0 ∨ v = 1 ∨ v = 2 by omega) with rfl | rfl | rfl <;> rfl)]; exact g1 v i hv
      have k7 : KM T7 l := ⟨by rw [r1 5 0 rfl]; exact hK.1, by rw [r2]; exact hK.2.1, hK.2.2⟩
      refine m_goThrough hW hmo hFS r4 r7 ⟨r5, r8⟩ (by rw [g7 0 0 (by decide)]; exact t0) (fun k hk => (r6 k hk).1) k7 (by rw [so1]; omega) (fun T8 a1 a2 a3 => ?_)
      rw [so1] at a3
      rw [so2]
      have g8 : ∀ v i, v ≤ 2 → T8.1 v i = T.1 v i := fun v i hv => by rw [a1 v i ⟨by omega, by omega, by omega, by omega, by omega⟩]; exact g7 v i hv
      obtain ⟨cm1, cm2, cm3, cm4, cm5⟩ := r3
      have e9 : T8.1 9 0 = nI (σ 5 0) := by rw [a1 9 0 ⟨by decide, by decide, by decide, by decide, by decide⟩, cm2, Nat.max_eq_right hKM]
      have e7 : ∀ j, j < σ 5 0 → T8.1 7 j = nI (ch j) ∧ T8.1 8 j = nI (lmx K l0 σ j) := by
        intro j hj
        rw [a1 7 j ⟨by decide, by decide, by decide, by decide, by decide⟩, a1 8 j ⟨by decide, by decide, by decide, by decide, by decide⟩]
        unfold lmx
        by_cases q : j < K
        · rw [if_pos q]; exact cm3 j q
        · rw [if_neg q, hO.2.2.1 j (by omega)]; exact cm5 j (by omega) hj
      have w8 : T8.1 6 0 = nI w := by rw [a1 6 0 ⟨by decide, by decide, by decide, by decide, by decide⟩, r1 6 0 rfl]; exact t6
      refine ⟨fun z => ?_, fun z T9 e9' => ?_⟩
      · have z' := (zI_0 _).mp z
        refine nxt T8 g8 e9 e7 a3 ?_
        rw [z']; exact w8
      · have z' := (zI_1 _).mp z
        refine nxt T9 (fun v i hv => by rw [e9', wr_1, if_neg (by omega)]; exact g8 v i hv) (by rw [e9', wr_1, if_neg (by decide)]; exact e9) (fun j hj => by rw [e9', wr_1, if_neg (by decide), wr_1, if_neg (by decide)]; exact e7 j hj) ⟨by rw [e9', wr_1, if_neg (by decide)]; exact a3.1, by rw [e9']; exact a3.2.1, a3.2.2⟩ ?_
        rw [z', e9', wr_1, if_pos rfl, if_pos rfl, w8, nI_1]; rfl
  refine ⟨fun _ S1 e1 S2 e2 S3 e3 => ⟨4096 + 1, ?_⟩, fun z => absurd t3 z⟩
  have f : ∀ v i, v ≠ 5 → v ≠ 6 → v ≠ 9 → S3.1 v i = T.1 v i := fun v i a b c => by rw [e3, wr_1, if_neg c, e2, wr_1, if_neg b, e1, wr_1, if_neg a]
  exact loop 4096 0 (fun _ => 0) (fun _ => 0) [] 0 S3 (by omega) OI_0 (Nat.zero_le _) (fun v i hv => f v i (by omega) (by omega) (by omega)) (by rw [e3, wr_1, if_pos rfl, if_pos rfl]; rfl) (fun j h => absurd h (Nat.not_lt_zero _)) ⟨by rw [e3, wr_1, if_neg (by decide), e2, wr_1, if_neg (by decide), e1, wr_1, if_pos rfl, if_pos rfl]; rfl, fun i h => absurd h (Nat.not_lt_zero _), List.Pairwise.nil⟩ (Nat.le_refl _) (by rw [e3, wr_1, if_neg (by decide), e2, wr_1, if_pos rfl, if_pos rfl]; rfl) rfl
end FND
