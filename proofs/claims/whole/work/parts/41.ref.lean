/-! the reference's way keeps to AW: access, from its beginning -/
section MAC3
variable {mo K : Nat} {ch l0 : Nat → Nat} {T0 : St} {σ : AW} {T : St} {h : Nat} {u : Nat → Nat} {b : Nat}
set_option maxHeartbeats 1000000 in
theorem m_214 {x4 : Int32} {Q : St → Prop} (hR : RM0 K ch l0 T0 σ T) (hI : IN σ h) (hK : K ≤ 6) (hch : ∀ j, ch j < 4) (hg : GR u) (hk : u 0 < 6) (hn : σ 7 0 < 6) (hm : rdK (u 0) = true → σ 5 0 < 6) (hb : b + 6 ≤ 144) (hu : ∀ j, j < 6 → T0.1 1 (b + j) = dcK (u 0) j (u j))
    (hx4 : x4 = 0 ∧ atK (u 0) = 2 ∨ x4 = 1 ∧ atK (u 0) = 3) (h23 : u 0 = 5 → T.1 23 (σ 7 0) = nI (σ 11 0) - 1)
    (hQ : ∀ T', RM0 K ch l0 T0 (aAcc mo u h (if rdK (u 0) then aCh σ 4 else σ) (ch (σ 5 0))) T' → T'.1 34 0 = (if u 0 = 4 then nI (σ 7 0) else T.1 34 0) → Q T') :
    bX7_access_214 Q (nI h) (nI b) (nI (u 0)) x4 (nI (4 * h + u 1)) (nI (4 * h + u 2)) (nI (u (atK (u 0) + 1)) - 1) (nI (aLoc σ h (u (atK (u 0))) (u (atK (u 0) + 1)))) T := by
  obtain ⟨g1, gx, gy, gm, gs, ey, hat⟩ := GR_acc hg hk
  have hh := hI.1
  obtain ⟨r1, r2, r3, ⟨r13, r33, r24⟩, r5, r6, r7⟩ := id hR
  have hin : vp_in (nI (σ 7 0)) 6 := nu_in hn (by decide)
  have hcl : (nI (σ 7 0)).toNatClampNeg = σ 7 0 := nu_cl (by omega)
  have hki : ∀ m, m < 11 → (nI (u 0) = nI m ↔ u 0 = m) := fun m hm => nI_eq (by omega) (by omega)
  have hd1 : nI (u 0) = (1 : Int32) ↔ u 0 = 1 := hki 1 (by decide)
  intro y36 e36 S37 e37
  rw [r13] at e36 e37
  subst e36
  rw [hcl]
  refine ⟨hin, fun S38 e38 => ⟨hin, fun S40 e40 => ⟨hin, fun S42 e42 => ?_⟩⟩⟩
  have p1 : ∀ j, j < 6 → S42.1 1 (b + j) = dcK (u 0) j (u j) := by
    intro j hj
    rw [← hu j hj, ← r1 1 (b + j) rfl, e42, e40, e38, e37]; simp [wr_1]
  -- everything from the register that is written on
  have k355 : ∀ S28 : St, S28 = wr (wr (wr S42 19 (σ 7 0) (nI (u (atK (u 0) + 2)))) 20 (σ 7 0) (nI (if u (atK (u 0) + 1) = 0 then 0 else σ 25 (4 * h + (u (atK (u 0) + 1) - 1))))) 22 (σ 7 0) (nI (σ 12 0)) → bX7_access_329 Q (nI (u 0)) (nI (4 * h + u 1)) (nI (σ 7 0)) (nI (4 * h + (if u 0 = 1 then u 1 else u 2))) S28 := by
    intro S28 e28
    have f28 : ∀ v i, (v < 7 ∨ 10 < v) → S28.1 v i = (if v = 13 ∧ i = 0 then nI (σ 7 0 + 1) else if v = 14 ∧ i = σ 7 0 then nI h else if v = 15 ∧ i = σ 7 0 then nI (u 0) else if v = 16 ∧ i = σ 7 0 then nI (aLoc σ h (u (atK (u 0))) (u (atK (u 0) + 1))) else if v = 19 ∧ i = σ 7 0 then nI (u (atK (u 0) + 2)) else if v = 20 ∧ i = σ 7 0 then nI (if u (atK (u 0) + 1) = 0 then 0 else σ 25 (4 * h + (u (atK (u 0) + 1) - 1))) else if v = 22 ∧ i = σ 7 0 then nI (σ 12 0) else T.1 v i) := by
      intro v i hv
      rw [e28, e42, e40, e38, e37, nI_1]
      simp only [wr_1]
      by_cases v13 : v = 13
      · subst v13; simp
      by_cases v14 : v = 14
      · subst v14; simp
      by_cases v15 : v = 15
      · subst v15; simp
      by_cases v16 : v = 16
      · subst v16; simp
      by_cases v19 : v = 19
      · subst v19; simp
      by_cases v20 : v = 20
      · subst v20; simp
      by_cases v22 : v = 22
      · subst v22; simp
      simp [v13, v14, v15, v16, v19, v20, v22]
    have c28 : CM K ch l0 σ S28 := by
      obtain ⟨c10, c9, c7, c0, c8⟩ := r3
      have q : ∀ v i, 7 ≤ v → v ≤ 10 → S28.1 v i = T.1 v i := by
        intro v i q1 q2
        rw [e28, e42, e40, e38, e37]
        simp only [wr_1]
        repeat rw [if_neg (by omega)]
      exact ⟨by rw [q _ _ (by decide) (by decide)]; exact c10, by rw [q _ _ (by decide) (by decide)]; exact c9, fun j hj => by rw [q _ _ (by decide) (by decide), q _ _ (by decide) (by decide)]; exact c7 j hj, c0, fun j hj hj2 => by rw [q _ _ (by decide) (by decide), q _ _ (by decide) (by decide)]; exact c8 j hj hj2⟩
    have t28 : S28.2 = T.2 := by rw [e28, e42, e40, e38, e37]; rfl
    have hfr : wtK (u 0) = true → 4 * h + (if u 0 = 1 then u 1 else u 2) = 4 * h + u (atK (u 0) - 1) := by
      intro q
      have : u 0 = 1 ∨ u 0 = 2 ∨ u 0 = 3 ∨ u 0 = 5 := by
        have : u 0 = 0 ∨ u 0 = 1 ∨ u 0 = 2 ∨ u 0 = 3 ∨ u 0 = 4 ∨ u 0 = 5 := by omega
        rcases this with e | e | e | e | e | e
        · rw [e] at q; cases q
        · omega
        · omega
        · omega
        · rw [e] at q; cases q
        · omega
      rcases this with e | e | e | e <;> rw [e] <;> rfl
    have k374 : ∀ S18 : St, S18 = wr S28 21 (σ 7 0) (nI (if wtK (u 0) then σ 25 (4 * h + u (atK (u 0) - 1)) else 0)) → bX7_access_374 Q (nI (u 0)) (nI (4 * h + u 1)) (nI (σ 7 0)) (nI (if wtK (u 0) then σ 24 (4 * h + u (atK (u 0) - 1)) else 0)) S18 := by
      intro S18 e18
      have f18 : ∀ v i, (v < 7 ∨ 10 < v) → S18.1 v i = (if v = 13 ∧ i = 0 then nI (σ 7 0 + 1) else if v = 14 ∧ i = σ 7 0 then nI h else if v = 15 ∧ i = σ 7 0 then nI (u 0) else if v = 16 ∧ i = σ 7 0 then nI (aLoc σ h (u (atK (u 0))) (u (atK (u 0) + 1))) else if v = 19 ∧ i = σ 7 0 then nI (u (atK (u 0) + 2)) else if v = 20 ∧ i = σ 7 0 then nI (if u (atK (u 0) + 1) = 0 then 0 else σ 25 (4 * h + (u (atK (u 0) + 1) - 1))) else if v = 22 ∧ i = σ 7 0 then nI (σ 12 0) else if v = 21 ∧ i = σ 7 0 then nI (if wtK (u 0) then σ 25 (4 * h + u (atK (u 0) - 1)) else 0) else T.1 v i) := by
        intro v i hv
        rw [e18, wr_1]
        by_cases v21 : v = 21
        · subst v21
          by_cases z : i = σ 7 0
          · simp [z]
          · rw [if_pos rfl, if_neg z, f28 21 i hv]; simp [z]
        · rw [if_neg v21, f28 v i hv]; simp [v21]
      have c18 : CM K ch l0 σ S18 := by
        obtain ⟨c10, c9, c7, c0, c8⟩ := c28
        rw [e18]
        exact ⟨by simpa [wr_1] using c10, by simpa [wr_1] using c9, by simpa [wr_1] using c7, c0, by simpa [wr_1] using c8⟩
      have t18 : S18.2 = T.2 := by rw [e18]; exact t28
      refine m_isReading (by omega) ⟨fun z => ?_, fun z => ?_⟩
      · have hr : rdK (u 0) = false := (zI_0 _).mp z
        have q := m_392 (mo := mo) (σ1 := σ) (gt := ch (σ 5 0)) (T9 := S18) (Q := Q) hR hg hk hn hI (fun _ _ _ _ => rfl) (hch _) c18 t18 f18 h23 (by rw [hr] at hQ; exact hQ)
        rw [hr] at q
        exact q
      · have hr : rdK (u 0) = true := by
          cases e : rdK (u 0)
          · rw [e] at z; exact absurd rfl z
          · rfl
        refine m_choose (lim := 4) c18 hK (hm hr) (fun T9 hC9 hf9 h29 => ?_)
        have q := m_392 (mo := mo) (σ1 := aCh σ 4) (gt := ch (σ 5 0)) (T9 := T9) (Q := Q) hR hg hk hn hI (fun v i a c => by unfold aCh; rw [su_g, if_neg (by omega), su_g, if_neg (by omega)]) (hch _) hC9 (by rw [h29]; exact t18) (fun v i hv => by rw [hf9 v i hv]; exact f18 v i hv) h23 (by rw [hr] at hQ; exact hQ)
        rw [hr] at q
        exact q
    have d12 : ∀ i, S28.1 12 i = T.1 12 i := by intro i; rw [f28 12 i (by decide)]; simp
    have w355 : ∀ t2 : Int32, t2 = nI (if wtK (u 0) then σ 25 (4 * h + u (atK (u 0) - 1)) else 0) → bX7_access_355 Q (nI (u 0)) (nI (4 * h + u 1)) (nI (σ 7 0)) (nI (4 * h + (if u 0 = 1 then u 1 else u 2))) (nI (σ 7 0)) t2 S28 := by
      intro t2 et
      refine ⟨hin, fun S18 e18 => ?_⟩
      rw [hcl, et] at e18
      have q := k374 S18 e18
      refine m_isWriting (by omega) ⟨fun z => ?_, fun z => ?_⟩
      · have hw : wtK (u 0) = false := (zI_0 _).mp z
        rw [hw] at q
        exact q
      · have hw : wtK (u 0) = true := by
          cases e : wtK (u 0)
          · rw [e] at z; exact absurd rfl z
          · rfl
        have := gs hw
        rw [hfr hw]
        rw [hw, if_pos rfl] at q
        rw [nu_cl (by omega)]
        have d11 : S18.1 11 (4 * h + u (atK (u 0) - 1)) = nI (σ 24 (4 * h + u (atK (u 0) - 1))) := by
          rw [← (r5 (4 * h + u (atK (u 0) - 1)) (by omega)).1, e18, wr_1, if_neg (by decide), f28 11 _ (by decide)]; simp
        rw [d11]
        exact ⟨nu_in (by omega) (by decide), q⟩
    refine m_isWriting (by omega) ⟨fun z => ?_, fun z => ?_⟩
    · have hw : wtK (u 0) = false := (zI_0 _).mp z
      exact w355 _ (by rw [hw]; rfl)
    · have hw : wtK (u 0) = true := by
        cases e : wtK (u 0)
        · rw [e] at z; exact absurd rfl z
        · rfl
      have := gs hw
      refine ⟨by rw [hfr hw]; exact nu_in (by omega) (by decide), w355 _ ?_⟩
      rw [hfr hw, nu_cl (by omega), d12, (r5 (4 * h + u (atK (u 0) - 1)) (by omega)).2, hw]; rfl
  have k305 : ∀ (S32 : St) (t2 : Int32), S32 = wr S42 19 (σ 7 0) (nI (u (atK (u 0) + 2))) → t2 = nI (if u (atK (u 0) + 1) = 0 then 0 else σ 25 (4 * h + (u (atK (u 0) + 1) - 1))) → bX7_access_305 Q (nI (u 0)) (nI (4 * h + u 1)) (nI (4 * h + u 2)) (nI (σ 7 0)) (nI (σ 7 0)) t2 S32 := by
    intro S32 t2 e32 et
    refine ⟨hin, fun S26 e26 => ⟨hin, fun S28 e28 => ?_⟩⟩
    have d33 : S26.1 33 0 = nI (σ 12 0) := by
      rw [e26, e32, e42, e40, e38, e37]; simp [wr_1, r33]
    rw [hcl] at e26 e28
    rw [d33, e26, e32, et] at e28
    have q := k355 S28 e28
    refine ⟨fun z => ?_, fun z => ?_⟩
    · rw [if_neg (fun w => z (hd1.mpr w))] at q; exact q
    · rw [if_pos (hd1.mp z)] at q; exact q
  have k276 : ∀ t4 : Int32, t4 = nI (atK (u 0) + 2) → bX7_access_276 Q (nI h) (nI (u 0)) (nI (4 * h + u 1)) (nI (4 * h + u 2)) (nI (u (atK (u 0) + 1)) - 1) (nI (σ 7 0)) (nI (σ 7 0)) (nI b) t4 S42 := by
    intro t4 et
    subst et
    unfold bX7_access_276
    rw [nI_add, hcl, nu_cl (by omega)]
    refine ⟨nu_in (by omega) (by decide), hin, fun S32 e32 => ?_⟩
    have em : S42.1 1 (b + (atK (u 0) + 2)) = nI (u (atK (u 0) + 2)) := by
      rw [p1 _ (by omega)]; unfold dcK; rw [if_neg (by omega)]
    rw [em] at e32
    refine ⟨fun z => ?_, fun z => ?_⟩
    · have hy : u (atK (u 0) + 1) ≠ 0 := by
        intro q; rw [q] at z; revert z; decide
      have e4 : (4 : Int32) * nI h + (nI (u (atK (u 0) + 1)) - 1) = nI (4 * h + (u (atK (u 0) + 1) - 1)) := by
        rw [nu_pred (by omega), nu_4, pk_mul, nI_add]
      rw [e4, nu_cl (by omega)]
      refine ⟨nu_in (by omega) (by decide), k305 S32 _ e32 ?_⟩
      rw [if_neg hy, ← (r5 (4 * h + (u (atK (u 0) + 1) - 1)) (by omega)).2, e32, e42, e40, e38, e37]
      simp [wr_1]
    · have hy : u (atK (u 0) + 1) = 0 := by
        rcases Nat.eq_zero_or_pos (u (atK (u 0) + 1)) with q | q
        · exact q
        · exact absurd (by rw [nu_pred q]; exact nI_pos' (by omega)) z
      exact k305 S32 _ e32 (by rw [if_pos hy]; rfl)
  refine ⟨fun z => k276 _ ?_, fun z => k276 _ ?_⟩
  · rcases hx4 with ⟨a, c⟩ | ⟨a, c⟩
    · rw [c]; rfl
    · rw [a] at z; exact absurd z (by decide)
  · rcases hx4 with ⟨a, c⟩ | ⟨a, c⟩
    · exact absurd a z
    · rw [c]; rfl
end MAC3
