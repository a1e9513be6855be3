/-! the class's search, from its first row; what is plausible -/
noncomputable def XS (σ : AW) : List (Nat → Nat) := gF σ (σ 7 0) 0 (fun _ => 99)
section SR2
variable {mo : Nat} {σ : AW}
theorem XS_mem (hW : WS mo σ) {p : Nat → Nat} : p ∈ XS σ ↔ CO σ p ∧ (∀ a, σ 7 0 ≤ a → p a = 99) ∧ isOrd σ p := by
  have h6 := hW.1.1
  have hP : PO σ 0 (fun _ => 99) := by
    rcases PO_0 (σ := σ) with h | h
    · exact h
    · omega
  unfold XS
  rw [gF_mem hW (σ 7 0) 0 _ p (by omega) hP]
  constructor
  · rintro ⟨h1, h2, h3, h4⟩
    exact ⟨h1, fun a ha => h2 a (Or.inr ha), (core hW h1).mp (fun b hb => h4 b hb (Nat.zero_le _))⟩
  · rintro ⟨h1, h2, h3⟩
    exact ⟨h1, fun a ha => h2 a (ha.resolve_left (Nat.not_lt_zero _)), fun a _ _ => Nat.zero_le _, fun b hb _ => (core hW h1).mpr h3 b hb⟩
def plaus (σ : AW) : Prop := ∀ i, i < σ 7 0 → rdK (σ 31 i) = true → σ 36 i ≠ 0 → ∃ w, w < σ 7 0 ∧ w ≠ i ∧ wtK (σ 31 w) = true ∧ σ 32 w = σ 32 i ∧ σ 37 w = σ 36 i
theorem plaus_of {p : Nat → Nat} (h : isOrd σ p) : plaus σ := by
  intro i hi hr hg
  have := h.2.1 i hi hr
  by_cases z : srcR σ p i = 0
  · rw [z] at this; exact absurd this.symm hg
  · obtain ⟨t1, t2, t3, t4, t5⟩ := src_s z
    refine ⟨srcR σ p i - 1, t1, t2, t3, t4, ?_⟩
    rw [← this]; unfold vl; rw [if_neg z]
theorem XS_nil (hW : WS mo σ) (h : ¬ plaus σ) : XS σ = [] := by
  cases e : XS σ with
  | nil => rfl
  | cons p t =>
    have : p ∈ XS σ := by rw [e]; exact List.mem_cons_self
    exact absurd (plaus_of ((XS_mem hW).mp this).2.2) h
theorem c_plaus {S : St} {Q : Int32 → St → Prop} (hW : WS mo σ) (h7 : S.1 7 0 = nI (σ 7 0)) (hA : ∀ i, i < σ 7 0 → AF σ S i) (hT : plaus σ → Q 1 S) (hF : ¬ plaus σ → Q 0 S) : pX5_isPlausible S Q := by
  have h6 := hW.1.1
  have wf : ∀ (i : Nat) (R : Int32 → St → Prop), i < σ 7 0 → ((∃ w, w < σ 7 0 ∧ w ≠ i ∧ wtK (σ 31 w) = true ∧ σ 32 w = σ 32 i ∧ σ 37 w = σ 36 i) → R 1 S) → (¬ (∃ w, w < σ 7 0 ∧ w ≠ i ∧ wtK (σ 31 w) = true ∧ σ 32 w = σ 32 i ∧ σ 37 w = σ 36 i) → R 0 S) → pX5_isWrittenFor (nI i) S R := by
    intro i R hi gT gF'
    have loop : ∀ c w, w + c = σ 7 0 → (∀ m, m < w → ¬ (m ≠ i ∧ wtK (σ 31 m) = true ∧ σ 32 m = σ 32 i ∧ σ 37 m = σ 36 i)) → itr (F := Int32 → Nat → Int32 → St → Prop) (fun _ _ _ _ => False) (fun k9 x1 x2 x3 S => bX5_isWrittenFor_9 k9 R x1 x2 x3 S) (c + 1) (nI i) i (nI w) S := by
      intro c
      induction c with
      | zero =>
        intro w hw hall
        refine ⟨fun _ => gF' (fun ⟨m, m1, m2⟩ => hall m (by omega) m2), fun z => absurd (by rw [h7]; exact nI_le (by omega) (by omega)) z⟩
      | succ c ih =>
        intro w hw hall
        have hwn : w < σ 7 0 := by omega
        have next : ¬ (w ≠ i ∧ wtK (σ 31 w) = true ∧ σ 32 w = σ 32 i ∧ σ 37 w = σ 36 i) → bX5_isWrittenFor_64 (itr (F := Int32 → Nat → Int32 → St → Prop) (fun _ _ _ _ => False) (fun k9 x1 x2 x3 S => bX5_isWrittenFor_9 k9 R x1 x2 x3 S) (c + 1)) R (nI i) i (nI w) S := by
          intro hn y1 e1
          rw [e1, nI_1]
          refine ih (w + 1) (by omega) (fun m hm => ?_)
          by_cases z : m = w
          · subst z; exact hn
          · exact hall m (by omega)
        obtain ⟨b1, b2, b3, b4, b5, b6, b7, b8, -⟩ := hA w hwn
        obtain ⟨a1, a2, a3, a4, a5, a6, a7, a8, -⟩ := hA i hi
        obtain ⟨-, -, j3, -, j5, j6, -⟩ := hW.1.2.2.2 w hwn
        obtain ⟨-, -, k3, -, k5, k6, -⟩ := hW.1.2.2.2 i hi
        refine ⟨fun z => by rw [h7, nI_leI (by omega) (by omega)] at z; omega, fun _ => ⟨nu_in (by omega) (by decide), fun i2 e2 => ?_⟩⟩
        rw [nu_cl (by omega)] at e2
        subst e2
        rw [b6, zI_n, b3, a3, b8, a7]
        have e0 : nI i2 = nI i ↔ i2 = i := nI_eq (by omega) (by omega)
        have e32 : nI (σ 32 i2) = nI (σ 32 i) ↔ σ 32 i2 = σ 32 i := nI_eq (by omega) (by omega)
        have e37 : nI (σ 37 i2) = nI (σ 36 i) ↔ σ 37 i2 = σ 36 i := nI_eq (by omega) (by omega)
        refine ⟨fun z => next (fun q => q.1 (e0.mp z)), fun z => ⟨fun z2 => next (fun q => by rw [q.2.1] at z2; exact absurd z2 (by decide)), fun z2 => ⟨fun z3 => next (fun q => z3 (e32.mpr q.2.2.1)), fun z3 => ⟨fun z4 => next (fun q => z4 (e37.mpr q.2.2.2)), fun z4 => gT ⟨i2, hwn, fun q => z (e0.mpr q), (zI_1 _).mp z2, e32.mp z3, e37.mp z4⟩⟩⟩⟩⟩
    refine ⟨nu_in (by omega) (by decide), fun i9 e9 => ?_⟩
    rw [nu_cl (by omega)] at e9
    subst e9
    exact ⟨σ 7 0 + 1, loop (σ 7 0) 0 (by omega) (fun m h => absurd h (Nat.not_lt_zero _))⟩
  have loop : ∀ c i, i + c = σ 7 0 → (∀ m, m < i → rdK (σ 31 m) = true → σ 36 m ≠ 0 → ∃ w, w < σ 7 0 ∧ w ≠ m ∧ wtK (σ 31 w) = true ∧ σ 32 w = σ 32 m ∧ σ 37 w = σ 36 m) → itr (F := Int32 → St → Prop) (fun _ _ => False) (fun k2 x1 S => bX5_isPlausible_2 k2 Q x1 S) (c + 1) (nI i) S := by
    intro c
    induction c with
    | zero =>
      intro i hi hall
      refine ⟨fun _ => hT (fun m hm => hall m (by omega)), fun z => absurd (by rw [h7]; exact nI_le (by omega) (by omega)) z⟩
    | succ c ih =>
      intro i hi hall
      have hin : i < σ 7 0 := by omega
      have next : (rdK (σ 31 i) = true → σ 36 i ≠ 0 → ∃ w, w < σ 7 0 ∧ w ≠ i ∧ wtK (σ 31 w) = true ∧ σ 32 w = σ 32 i ∧ σ 37 w = σ 36 i) → bX5_isPlausible_44 (itr (F := Int32 → St → Prop) (fun _ _ => False) (fun k2 x1 S => bX5_isPlausible_2 k2 Q x1 S) (c + 1)) Q (nI i) S := by
        intro hn y1 e1
        rw [e1, nI_1]
        refine ih (i + 1) (by omega) (fun m hm => ?_)
        by_cases z : m = i
        · subst z; exact hn
        · exact hall m (by omega)
      obtain ⟨a1, a2, a3, a4, a5, a6, a7, a8, -⟩ := hA i hin
      obtain ⟨-, -, k3, -, k5, k6, -⟩ := hW.1.2.2.2 i hin
      have hv : vp_in (nI i) 6 := nu_in (by omega) (by decide)
      refine ⟨fun z => by rw [h7, nI_leI (by omega) (by omega)] at z; omega, fun _ => ⟨hv, fun i2 e2 => ?_⟩⟩
      rw [nu_cl (by omega)] at e2
      subst e2
      rw [a5, zI_n]
      refine ⟨fun z => next (fun q => by rw [q] at z; exact absurd z (by decide)), fun z => ⟨hv, fun i4 e4 => ?_⟩⟩
      rw [nu_cl (by omega)] at e4
      subst e4
      rw [a7]
      have e36 : nI (σ 36 i4) = 0 ↔ σ 36 i4 = 0 := nu_e0 (by omega)
      refine ⟨fun z2 => next (fun _ q => absurd (e36.mp z2) q), fun z2 => ?_⟩
      exact wf i4 _ hin (fun q => ⟨fun _ => next (fun _ _ => q), fun y => absurd y (by decide)⟩) (fun q => ⟨fun y => absurd rfl y, fun _ => hF (fun h => q (h i4 hin ((zI_1 _).mp z) (fun y => z2 (e36.mpr y))))⟩)
  exact ⟨σ 7 0 + 1, loop (σ 7 0) 0 (by omega) (fun m h => absurd h (Nat.not_lt_zero _))⟩
theorem c_search {S : St} {l : List Int64} {n0 n2 : Nat} {Q : Int32 → St → Prop} (hW : WS mo σ) (h7 : S.1 7 0 = nI (σ 7 0)) (hA : ∀ i, i < σ 7 0 → AF σ S i) (hr : ∀ k, k < 16 → S.1 24 k = nI (σ 24 k)) (hK : KR S l) (hc : IsC n0) (hl : l.length ≤ n0) (hle : (insL σ l (XS σ)).length ≤ 65536) (en : n2 = cp n0 (insL σ l (XS σ)).length)
    (hQ : ∀ S', (∀ v i, v ≠ 16 → v ≠ 17 → v ≠ 26 → v ≠ 27 → v ≠ 28 → S'.1 v i = S.1 v i) → S'.2.1 = S.2.1 → KR S' (insL σ l (XS σ)) → Q (zI (!(XS σ).isEmpty)) S') : pX2_search n0 n2 S Q := by
  have h6 := hW.1.1
  have hP : PO σ 0 (fun _ => 99) := by
    rcases PO_0 (σ := σ) with h | h
    · exact h
    · omega
  intro S1 e1
  refine c_regs (v := σ 24) (fun k hk => ⟨?_, (hW.1.2.2.1 k hk).1⟩) (fun S4 e4 => ?_)
  · rw [e1, wr_1, if_neg (by decide)]; exact hr k hk
  · refine c_fill_2_latest (fun S5 f1 f2 f3 => ⟨n2, by rw [en]; exact cp_ge _ _, Nat.le_refl _, ?_⟩)
    have g : ∀ v i, v ≠ 28 → v ≠ 16 → S5.1 v i = S.1 v i := fun v i a b => by rw [f1 v i a, e4, wrL_1, e1, wr_1, if_neg b]
    have ebm : nI (bm σ (fun _ => 99) 0) = 0 := by
      have : bm σ (fun _ => 99) 0 = 0 := by
        apply Nat.eq_of_testBit_eq
        intro a
        rw [Nat.zero_testBit]
        cases e : (bm σ (fun _ => 99) 0).testBit a
        · rfl
        · exact absurd (bm_t.mp e).2 (by omega)
      rw [this]; rfl
    have hl0 : ∀ x, ltOf σ (fun _ => 99) 0 x = 0 := by
      intro x
      by_cases z : ltOf σ (fun _ => 99) 0 x = 0
      · exact z
      · exact absurd (ltQ_t.mp (amx_s _ z).2.1).2.2 (by omega)
    have := c_extend hW (σ 7 0) 8 0 (fun _ => 99) l n0 n2 S5 (fun S7 => n2 = n2 ∧ zb (S7.1 16 0) ∧ Q (S7.1 16 0) S7) (by omega) (by omega) hP ?_ ?_ ?_ hc hl hle en (fun S' hE => ?_)
    · rw [ebm] at this; exact this
    · refine ⟨by rw [g 7 0 (by decide) (by decide)]; exact h7, fun i hi => ?_, fun x hx => ?_, fun a _ h => absurd h (Nat.not_lt_zero _)⟩
      · have := hA i hi
        unfold AF at this ⊢
        simp only [g 30 i (by decide) (by decide), g 31 i (by decide) (by decide), g 32 i (by decide) (by decide), g 33 i (by decide) (by decide), g 34 i (by decide) (by decide), g 35 i (by decide) (by decide), g 36 i (by decide) (by decide), g 37 i (by decide) (by decide), g 38 i (by decide) (by decide), g 39 i (by decide) (by decide), g 40 i (by decide) (by decide), g 41 i (by decide) (by decide), g 42 i (by decide) (by decide), g 43 i (by decide) (by decide)]
        exact this
      · rw [f3 x hx, hl0]; rfl
    · rw [f2, e4, wrL_3, if_pos rfl, if_pos rfl]
    · refine ⟨by rw [g 17 0 (by decide) (by decide)]; exact hK.1, ?_, hK.2.2⟩
      have : S5.2.2 1 = S.2.2 1 := by
        rw [f2, e4]
        funext i
        rw [wrL_3, if_neg (by decide), e1]; rfl
      rw [this]; exact hK.2.1
    · obtain ⟨b1, b2, b3, b4, b5, b6⟩ := hE
      have e16 : S'.1 16 0 = zI (!(XS σ).isEmpty) := by
        rw [b4, f1 16 0 (by decide), e4, wrL_1, e1, wr_1, if_pos rfl, if_pos rfl]
        unfold XS
        cases (gF σ (σ 7 0) 0 fun _ => 99).isEmpty <;> rfl
      refine ⟨rfl, by rw [e16]; exact zI_z _, ?_⟩
      rw [e16]
      refine hQ S' (fun v i x1 x2 x3 x4 x5 => by rw [b1 v i x1 x2 x3 x4, g v i x5 x1]) ?_ b5
      rw [b2, f2, e4, wrL_2, e1]; rfl
end SR2
