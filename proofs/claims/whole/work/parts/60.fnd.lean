/-! the next choices, in the class and in the reference; find -/
theorem c_advance {M : Nat} {ch lm : Nat → Nat} {S : St} {Q : Int32 → St → Prop} (h6 : M ≤ 6) (s5 : S.1 5 0 = nI M) (s22 : ∀ j, j < M → S.1 22 j = nI (ch j) ∧ S.1 23 j = nI (lm j)) (hb : ∀ j, j < M → ch j < 4 ∧ lm j ≤ 4)
    (hQ : ∀ S', (∀ v i, v ≠ 5 → v ≠ 6 → v ≠ 22 → S'.1 v i = S.1 v i) → S'.2 = S.2 → S'.1 5 0 = nI 0 → S'.1 6 0 = nI (lst ch lm M) → (∀ j, j < lst ch lm M → S'.1 22 j = nI (nch ch (lst ch lm M) j)) → Q (zI (decide (lst ch lm M ≠ 0))) S') : pX1_advance S Q := by
  have loop : ∀ m, m ≤ M → lst ch lm m = lst ch lm M → itr (F := Int32 → St → Prop) (fun _ _ => False) (fun k7 x1 S => bX1_advance_7 k7 Q x1 S) (m + 1) (nI m - 1) S := by
    intro m
    induction m with
    | zero =>
      intro hm e
      rw [lst] at e
      refine ⟨fun _ => ⟨fun _ S1 e1 S2 e2 => ⟨fun _ => ⟨zb_0, ?_⟩, fun z => absurd (by decide) z⟩, fun z => absurd (by decide) z⟩, fun z => absurd (by decide) z⟩
      have := hQ S2 (fun v i a b c => by rw [e2, wr_1, if_neg a, e1, wr_1, if_neg b]) (by rw [e2, e1]; rfl) (by rw [e2, wr_1, if_pos rfl, if_pos rfl]; rfl) (by rw [e2, wr_1, if_neg (by decide), e1, wr_1, if_pos rfl, if_pos rfl, ← e]; rfl) (fun j hj => by rw [← e] at hj; exact absurd hj (Nat.not_lt_zero _))
      rw [← e] at this
      exact this
    | succ m ih =>
      intro hm e
      obtain ⟨a1, a2⟩ := s22 m (by omega)
      obtain ⟨b1, b2⟩ := hb m (by omega)
      have him : vp_in (nI m) 6 := nu_in (by omega) (by decide)
      have cm : (nI m).toNatClampNeg = m := nu_cl (by omega)
      have ec : nI (ch m) + (1 : Int32) < nI (lm m) ↔ ch m + 1 < lm m := by rw [nI_1]; exact nI_ltI (by omega) (by omega)
      rw [nI_pred]
      refine ⟨fun z => absurd z (nI_pos (by omega)), fun _ => ⟨him, him, ?_⟩⟩
      rw [cm, a1, a2]
      refine ⟨fun z => ⟨fun y => absurd y (nI_pos (by omega)), fun _ => ⟨him, him, fun S5 e5 => ?_⟩⟩, fun z y10 e10 => ?_⟩
      · rw [cm, a1] at e5
        have z' := ec.mp z
        rw [lst, if_pos z'] at e
        intro S1 e1 S2 e2
        refine ⟨fun y => absurd y (nI_pos (by omega)), fun _ => ⟨zb_1, ?_⟩⟩
        have g22 : ∀ i, S2.1 22 i = if i = m then nI (ch m) + 1 else S.1 22 i := fun i => by rw [e2, wr_1, if_neg (by decide), e1, wr_1, if_neg (by decide), e5, wr_1, if_pos rfl]
        have := hQ S2 (fun v i a b c => by rw [e2, wr_1, if_neg a, e1, wr_1, if_neg b, e5, wr_1, if_neg c]) (by rw [e2, e1, e5]; rfl) (by rw [e2, wr_1, if_pos rfl, if_pos rfl]; rfl) (by rw [e2, wr_1, if_neg (by decide), e1, wr_1, if_pos rfl, if_pos rfl, ← e, nI_1]) (fun j hj => by
          rw [← e] at hj
          rw [g22 j, ← e]
          unfold nch
          by_cases q : j = m
          · rw [if_pos q, if_neg (by omega), if_pos (by omega), q, nI_1]
          · rw [if_neg q, if_pos (by omega)]; exact (s22 j (by omega)).1)
        rw [← e] at this
        exact this
      · have z' : ¬ ch m + 1 < lm m := fun q => z (ec.mpr q)
        rw [lst, if_neg z'] at e
        rw [e10, nu_a1]
        exact ih (by omega) e
  intro y13 e13
  rw [e13, s5]
  exact ⟨M + 1, loop M (Nat.le_refl _) rfl⟩
theorem m_nextWay {M : Nat} {ch lm : Nat → Nat} {T : St} {Q : Int32 → St → Prop} (h6 : M ≤ 6) (s9 : T.1 9 0 = nI M) (s7 : ∀ j, j < M → T.1 7 j = nI (ch j) ∧ T.1 8 j = nI (lm j)) (hb : ∀ j, j < M → ch j < lm j ∧ lm j ≤ 4)
    (hQ : ∀ T', (∀ v i, v ≠ 7 → v ≠ 9 → T'.1 v i = T.1 v i) → T'.2 = T.2 → T'.1 9 0 = nI (lst ch lm M) → (∀ j, j < lst ch lm M → T'.1 7 j = nI (nch ch (lst ch lm M) j)) → Q (zI (decide (lst ch lm M ≠ 0))) T') : pX7_nextWay T Q := by
  have loop : ∀ m, m ≤ M → lst ch lm m = lst ch lm M → ∀ T1 : St, (∀ v i, v ≠ 9 → T1.1 v i = T.1 v i) → T1.2 = T.2 → T1.1 9 0 = nI m → itr (F := St → Prop) (fun _ => False) (fun k0 S => bX7_nextWay_0 k0 Q S) (m + 1) T1 := by
    intro m
    induction m with
    | zero =>
      intro hm e T1 g1 g2 g3
      rw [lst] at e
      refine ⟨fun _ => ⟨fun z => absurd g3 z, fun _ => ?_⟩, fun z => absurd (by rw [g3]; decide) z⟩
      have := hQ T1 (fun v i a b => g1 v i b) g2 (by rw [← e]; exact g3) (fun j hj => by rw [← e] at hj; exact absurd hj (Nat.not_lt_zero _))
      rw [← e] at this
      exact this
    | succ m ih =>
      intro hm e T1 g1 g2 g3
      obtain ⟨a1, a2⟩ := s7 m (by omega)
      obtain ⟨b1, b2⟩ := hb m (by omega)
      have him : vp_in (nI m) 64 := nu_in (by omega) (by decide)
      have cm : (nI m).toNatClampNeg = m := nu_cl (by omega)
      have ec : nI (ch m) = nI (lm m) - 1 ↔ ¬ ch m + 1 < lm m := by
        rw [nu_pred (by omega), nI_eq (by omega) (by omega)]; omega
      have hne : ¬ nI (m + 1) = 0 := fun q => by rw [nu_e0 (by omega)] at q; omega
      refine ⟨fun z => ?_, fun _ => ?_⟩
      · rw [g3, show (0 : Int32) = nI 0 from rfl, nI_leI (by omega) (by omega)] at z; omega
      rw [g3, nI_pred, cm, g1 7 m (by decide), g1 8 m (by decide), a1, a2]
      refine ⟨him, him, fun z => ⟨fun _ => ?_, fun y => absurd y (by rw [g3]; exact hne)⟩, fun z T2 e2 => ?_⟩
      · have z' : ch m + 1 < lm m := Classical.byContradiction (fun q => z (ec.mpr q))
        rw [lst, if_pos z'] at e
        rw [g3, nI_pred, cm, g1 7 m (by decide), a1]
        refine ⟨him, him, fun T2 e2 => ?_⟩
        have := hQ T2 (fun v i a b => by rw [e2, wr_1, if_neg a]; exact g1 v i b) (by rw [e2]; exact g2) (by rw [e2, wr_1, if_neg (by decide), ← e]; exact g3) (fun j hj => by
          rw [← e] at hj
          rw [← e, e2, wr_1, if_pos rfl]
          unfold nch
          by_cases q : j = m
          · rw [if_pos q, if_neg (by omega), if_pos (by omega), q, nI_1]
          · rw [if_neg q, if_pos (by omega), g1 7 j (by decide)]; exact (s7 j (by omega)).1)
        rw [← e] at this
        exact this
      · have z' := ec.mp z
        rw [lst, if_neg z'] at e
        exact ih (by omega) e T2 (fun v i hv => by rw [e2, wr_1, if_neg hv]; exact g1 v i hv) (by rw [e2]; exact g2) (by rw [e2, wr_1, if_pos rfl, if_pos rfl])
  exact ⟨M + 1, loop M (Nat.le_refl _) rfl T (fun _ _ _ => rfl) rfl s9⟩
/-- all ways, from these choices on -/
noncomputable def fnd (mo : Nat) (P : Nat → Nat → Nat → Nat) (L : Nat → Nat) : Nat → Nat → (Nat → Nat) → (Nat → Nat) → List Int64 → Nat → List Int64 × Nat
  | 0, _, _, _, l, w => (l, w)
  | f + 1, K, ch, l0, l, w =>
    if lst ch (lmx K l0 (aWay mo P L ch)) (aWay mo P L ch 5 0) = 0 then (insL (aWay mo P L ch) l (XS (aWay mo P L ch)), w + b2n (!(XS (aWay mo P L ch)).isEmpty))
    else fnd mo P L f (lst ch (lmx K l0 (aWay mo P L ch)) (aWay mo P L ch 5 0)) (nch ch (lst ch (lmx K l0 (aWay mo P L ch)) (aWay mo P L ch 5 0))) (lmx K l0 (aWay mo P L ch)) (insL (aWay mo P L ch) l (XS (aWay mo P L ch))) (w + b2n (!(XS (aWay mo P L ch)).isEmpty))
/-- a program as both hold it -/
def PP (P : Nat → Nat → Nat → Nat) (L : Nat → Nat) : Prop := (∀ h, h < 4 → L h ≤ 6) ∧ (∀ h, h < 4 → ∀ i, i < L h → GR (P h i)) ∧ acR P L 0 ≤ 6
theorem PP_way {mo : Nat} {P : Nat → Nat → Nat → Nat} {L ch : Nat → Nat} (h : PP P L) (hch : ∀ j, ch j < 4) : WS mo (aWay mo P L ch) ∧ FS (aWay mo P L ch) ∧ aWay mo P L ch 5 0 ≤ 6 := by
  have hW := way_WS (mo := mo) h.2.1 h.2.2 hch
  exact ⟨hW, way_FS h.2.1 h.1 h.2.2 hch, hW.1.2.1⟩
theorem cnt1 {mo : Nat} {σ : AW} (hW : WS mo σ) {l : List Int64} (hl : SL l) {w : Nat} (hlw : l.length ≤ 9 * w) : (insL σ l (XS σ)).length ≤ 9 * (w + b2n (!(XS σ).isEmpty)) := by
  have h1 := way_cnt hW hl
  cases e : XS σ with
  | nil =>
    show (insL σ l []).length ≤ _
    exact hlw
  | cons p t =>
    rw [← e]
    have : (XS σ).isEmpty = false := by rw [e]; rfl
    rw [this]
    show _ ≤ 9 * (w + 1)
    omega
theorem b2n_le (b : Bool) : b2n b ≤ 1 := by cases b <;> decide
theorem fnd_b {mo : Nat} {P : Nat → Nat → Nat → Nat} {L : Nat → Nat} (hP : PP P L) : ∀ (f K : Nat) (ch l0 : Nat → Nat) (l : List Int64) (w : Nat), OI mo P L K ch l0 → SL l → l.length ≤ 9 * w → w ≤ rk ch → SL (fnd mo P L f K ch l0 l w).1 ∧ (fnd mo P L f K ch l0 l w).1.length ≤ 9 * (fnd mo P L f K ch l0 l w).2 ∧ (fnd mo P L f K ch l0 l w).2 ≤ 4096 ∧ l.length ≤ (fnd mo P L f K ch l0 l w).1.length
  | 0, K, ch, l0, l, w, hO, hl, hlw, hw => ⟨hl, hlw, by have := rk_lt hO.2.1; show w ≤ 4096; omega, Nat.le_refl _⟩
  | f + 1, K, ch, l0, l, w, hO, hl, hlw, hw => by
    obtain ⟨hW, -, h6⟩ := PP_way (mo := mo) hP hO.2.1
    have r := rk_lt hO.2.1
    have b := b2n_le (!(XS (aWay mo P L ch)).isEmpty)
    have hl2 := insL_SL (σ := aWay mo P L ch) (XS (aWay mo P L ch)) l hl
    have hle := insL_le (σ := aWay mo P L ch) (XS (aWay mo P L ch)) l
    rw [fnd]
    by_cases c : lst ch (lmx K l0 (aWay mo P L ch)) (aWay mo P L ch 5 0) = 0
    · rw [if_pos c]
      exact ⟨hl2, cnt1 hW hl hlw, by show w + _ ≤ 4096; omega, hle⟩
    · rw [if_neg c]
      have := rk_next hO.2.1 c (by have := lst_le ch (lmx K l0 (aWay mo P L ch)) (aWay mo P L ch 5 0); omega)
      obtain ⟨q1, q2, q3, q4⟩ := fnd_b hP f _ _ _ _ (w + b2n (!(XS (aWay mo P L ch)).isEmpty)) (OI_next hO h6 rfl c) hl2 (cnt1 hW hl hlw) (by omega)
      exact ⟨q1, q2, q3, by omega⟩
