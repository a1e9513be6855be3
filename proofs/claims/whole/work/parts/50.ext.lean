/-! the class's search: what it asks of an access -/
theorem nu_sub : ∀ A, A < 64 → ∀ M, M < 64 → ((nI A &&& (nI M ^^^ (-1 : Int32))) = 0 ↔ A &&& M = A) := by decide +kernel
theorem and_sub {A M : Nat} : A &&& M = A ↔ ∀ a, A.testBit a = true → M.testBit a = true := by
  constructor
  · intro h a ha
    have := congrArg (fun z => Nat.testBit z a) h
    simp only [Nat.testBit_and, ha, Bool.true_and] at this
    exact this
  · intro h
    apply Nat.eq_of_testBit_eq
    intro a
    rw [Nat.testBit_and]
    cases e : A.testBit a
    · rfl
    · rw [h a e]; rfl
/-- those that are put, as bits -/
def bm (σ : AW) (p : Nat → Nat) (d : Nat) : Nat := msk (fun a => decide (p a < d)) 0 (σ 7 0)
theorem bm_t {σ : AW} {p : Nat → Nat} {d a : Nat} : (bm σ p d).testBit a = true ↔ a < σ 7 0 ∧ p a < d := by
  unfold bm; rw [msk_bit]; simp
theorem c_isIn {M i : Nat} {Q : Int32 → Prop} (hM : M < 64) (hi : i < 6) (hQ : Q (zI (M.testBit i))) : pX2_isIn (nI M) (nI i) Q := by
  have h := nu_bit M hM i hi
  refine ⟨fun z => ?_, fun z => ?_⟩
  · rw [h.mp z] at hQ; exact ⟨Or.inl rfl, hQ⟩
  · have : M.testBit i = true := by
      cases e : M.testBit i
      · exact absurd (h.mpr e) z
      · rfl
    rw [this] at hQ; exact ⟨Or.inr rfl, hQ⟩
/-- what the class's search knows at a depth -/
def DS (σ : AW) (p : Nat → Nat) (d : Nat) (S : St) : Prop :=
  S.1 7 0 = nI (σ 7 0) ∧ (∀ i, i < σ 7 0 → AF σ S i) ∧ (∀ x, x < 3 → S.1 28 x = nI (ltOf σ p d x) - 1) ∧
  (∀ a, a < σ 7 0 → p a < d → S.1 26 a = nI (p a) ∧ (rdK (σ 31 a) = true → S.1 27 a = nI (sp σ p a) - 1))
def C2 (σ : AW) (p : Nat → Nat) (d i : Nat) : Prop := (rdK (σ 31 i) = true → vl σ (srcB σ p d i) = σ 36 i ∧ (srcB σ p d i = 0 ∨ p (srcB σ p d i - 1) < d ∨ σ 31 (srcB σ p d i - 1) = 1 ∧ ∀ a, (σ 38 (srcB σ p d i - 1) ||| σ 39 (srcB σ p d i - 1)).testBit a = true → p a < d) ∧
    ∀ l, i < l → l < σ 7 0 → p l < d → (σ 42 l).testBit i = true → sp σ p l = srcB σ p d i)
def C3 (σ : AW) (p : Nat → Nat) (d i : Nat) : Prop := (σ 40 i ≠ 0 → ∀ w, w < σ 7 0 → p w < d → wtK (σ 31 w) = true → σ 30 w ≠ σ 30 i → σ 32 w = σ 32 i → sp σ p (σ 40 i - 1) ≠ 0 ∧ p w ≤ p (sp σ p (σ 40 i - 1) - 1))
section CEX
variable {mo : Nat} {σ : AW} {p : Nat → Nat} {d : Nat} {S : St}
theorem srcB_le (hW : WS mo σ) {i : Nat} (hi : i < σ 7 0) : srcB σ p d i ≤ 6 := by
  have h6 := hW.1.1
  by_cases z : srcB σ p d i = 0
  · omega
  · have := (srcB_i hW hi z).1; omega
theorem bm_lt (hW : WS mo σ) : bm σ p d < 64 := msk_lt64 _ _ hW.1.1
theorem c_src {i : Nat} {Q : Int32 → St → Prop} (hW : WS mo σ) (hD : DS σ p d S) (hi : i < σ 7 0) (hQ : Q (nI (srcB σ p d i) - 1) S) : pX2_sourceOf i (nI (bm σ p d)) S Q := by
  have h6 := hW.1.1
  obtain ⟨a1, a2, a3, a4, a5, a6, a7, a8, a9, a10, a11, a12, a13, a14⟩ := hD.2.1 i hi
  obtain ⟨i1, i2, i3, i4, i5, i6', i7, i8, i9, i10, i11, i12, i13⟩ := hW.1.2.2.2 i hi
  have lat : ltOf σ p d (σ 32 i) = srcB σ p d i → bX2_sourceOf_23 Q i S := by
    intro e
    refine ⟨fun _ => ?_, fun z => absurd rfl z⟩
    rw [a3, nu_cl (by omega)]
    refine ⟨nu_in i3 (by decide), ?_⟩
    rw [hD.2.2.1 _ i3, e]
    exact hQ
  refine ⟨fun z => lat ?_, fun z => ?_⟩
  · rw [a12] at z
    have := (nu_m1 (by omega)).mp z
    unfold srcB; rw [if_neg (fun x => x.1 this)]
  · rw [a12] at z ⊢
    have hne : σ 41 i ≠ 0 := fun q => z ((nu_m1 (by omega)).mpr q)
    rw [nu_pred (by omega)]
    refine c_isIn (bm_lt hW) (by omega) ⟨fun w => lat ?_, fun w => ⟨fun q => absurd q (by decide), fun _ => ?_⟩⟩
    · have := (bm_t.mp ((zI_1 _).mp w)).2
      unfold srcB; rw [if_neg (fun x => x.2 this)]
    · have hn : ¬ p (σ 41 i - 1) < d := by
        intro q
        have hlt : σ 41 i - 1 < σ 7 0 := by
          rcases (hW.2.1 i hi).2.1 with ⟨e, -⟩ | ⟨w0, e, e1, -⟩
          · exact absurd e hne
          · omega
        have := bm_t.mpr ⟨hlt, q⟩
        rw [this] at w; exact absurd w (by decide)
      have : srcB σ p d i = σ 41 i := by unfold srcB; rw [if_pos ⟨hne, hn⟩]
      rw [this] at hQ
      show Q (S.1 41 i) S
      rw [a12]; exact hQ
theorem c_fwd {s : Nat} {Q : Int32 → St → Prop} (hW : WS mo σ) (hD : DS σ p d S) (hs : s ≤ σ 7 0) (hT : (s = 0 ∨ p (s - 1) < d ∨ σ 31 (s - 1) = 1 ∧ ∀ a, (σ 38 (s - 1) ||| σ 39 (s - 1)).testBit a = true → p a < d) → Q 1 S) (hF : ¬ (s = 0 ∨ p (s - 1) < d ∨ σ 31 (s - 1) = 1 ∧ ∀ a, (σ 38 (s - 1) ||| σ 39 (s - 1)).testBit a = true → p a < d) → Q 0 S) : pX2_mayForward (nI s - 1) (nI (bm σ p d)) S Q := by
  have h6 := hW.1.1
  refine ⟨fun z => hT (Or.inl ((nu_m1 (by omega)).mp z)), fun z => ?_⟩
  have hne : s ≠ 0 := fun q => z ((nu_m1 (by omega)).mpr q)
  rw [nu_pred (by omega)]
  refine c_isIn (bm_lt hW) (by omega) ⟨fun w => ?_, fun w => hT (Or.inr (Or.inl (bm_t.mp ((zI_1 _).mp w)).2))⟩
  have hn : ¬ p (s - 1) < d := by
    intro q
    have := bm_t.mpr ⟨show s - 1 < σ 7 0 by omega, q⟩
    rw [this] at w; exact absurd w (by decide)
  have hlt : s - 1 < σ 7 0 := by omega
  obtain ⟨a1, a2, a3, a4, a5, a6, a7, a8, a9, a10, a11, a12, a13, a14⟩ := hD.2.1 (s - 1) hlt
  obtain ⟨i1, i2, i3, i4, i5, i6', i7, i8, i9, i10, i11, i12, i13⟩ := hW.1.2.2.2 (s - 1) hlt
  refine ⟨nu_in (by omega) (by decide), fun i3 e3 => ?_⟩
  rw [nu_cl (by omega)] at e3
  subst e3
  rw [a2, a9, a10, nu_or]
  have e1 : nI (σ 31 (s - 1)) = (1 : Int32) ↔ σ 31 (s - 1) = 1 := nI_eq (b := 1) (by omega) (by decide)
  have e2 := nu_sub _ (nu_or64 _ i7 _ i8) _ (bm_lt (p := p) (d := d) hW)
  have e3 : ((nI (σ 38 (s - 1) ||| σ 39 (s - 1)) &&& (nI (bm σ p d) ^^^ (-1 : Int32))) = 0 ↔ ∀ a, (σ 38 (s - 1) ||| σ 39 (s - 1)).testBit a = true → p a < d) := by
    rw [e2, and_sub]
    constructor
    · intro h a ha; exact (bm_t.mp (h a ha)).2
    · intro h a ha
      have ha2 := ha
      rw [Nat.testBit_or, Bool.or_eq_true] at ha2
      have := ((hW.2.1 _ hlt).2.2.2.1 a ha2).1
      exact bm_t.mpr ⟨by omega, h a ha⟩
  refine ⟨fun w2 => ⟨Or.inl rfl, hF ?_⟩, fun w2 => ⟨fun w3 => ⟨Or.inl rfl, hF ?_⟩, fun w3 => ⟨Or.inr rfl, hT (Or.inr (Or.inr ⟨e1.mp w2, e3.mp w3⟩))⟩⟩⟩
  · rintro (q | q | q)
    · exact hne q
    · exact hn q
    · exact w2 (e1.mpr q.1)
  · rintro (q | q | q)
    · exact hne q
    · exact hn q
    · exact w3 (e3.mpr q.2)
theorem c_twins {i s : Nat} {Q : Int32 → St → Prop} (hW : WS mo σ) (hD : DS σ p d S) (hi : i < σ 7 0) (hs : s ≤ 6) (h27 : S.1 27 i = nI s - 1) (hT : (∀ l, i < l → l < σ 7 0 → p l < d → (σ 42 l).testBit i = true → sp σ p l = s) → Q 1 S) (hF : ¬ (∀ l, i < l → l < σ 7 0 → p l < d → (σ 42 l).testBit i = true → sp σ p l = s) → Q 0 S) : pX2_agreesWithTwins (nI i) (nI (bm σ p d)) S Q := by
  have h6 := hW.1.1
  have loop : ∀ c l, l + c = σ 7 0 → i < l → (∀ m, i < m → m < l → p m < d → (σ 42 m).testBit i = true → sp σ p m = s) → itr (F := Int32 → Int32 → Int32 → St → Prop) (fun _ _ _ _ => False) (fun k4 x1 x2 x3 S => bX2_agreesWithTwins_4 k4 Q x1 x2 x3 S) (c + 1) (nI i) (nI (bm σ p d)) (nI l) S := by
    intro c
    induction c with
    | zero =>
      intro l hl hil hm
      refine ⟨fun _ => hT (fun m a b => hm m a (by omega)), fun z => absurd (by rw [hD.1]; exact nI_le (by omega) (by omega)) z⟩
    | succ c ih =>
      intro l hl hil hm
      have hln : l < σ 7 0 := by omega
      have next : (p l < d → (σ 42 l).testBit i = true → sp σ p l = s) → bX2_agreesWithTwins_58 (itr (F := Int32 → Int32 → Int32 → St → Prop) (fun _ _ _ _ => False) (fun k4 x1 x2 x3 S => bX2_agreesWithTwins_4 k4 Q x1 x2 x3 S) (c + 1)) Q (nI i) (nI (bm σ p d)) (nI l) S := by
        intro hq y1 e1
        rw [e1, nI_1]
        refine ih (l + 1) (by omega) (by omega) (fun m a b => ?_)
        by_cases z : m = l
        · subst z; exact hq
        · exact hm m a (by omega)
      refine ⟨fun z => by rw [hD.1, nI_leI (by omega) (by omega)] at z; omega, fun _ => ?_⟩
      refine c_isIn (bm_lt hW) (by omega) ⟨fun w => next (fun q => ?_), fun w => ⟨nu_in (by omega) (by decide), fun i6 e6 => ?_⟩⟩
      · have := bm_t.mpr ⟨hln, q⟩
        rw [this] at w; exact absurd w (by decide)
      · have hpl := (bm_t.mp ((zI_1 _).mp w)).2
        rw [nu_cl (by omega)] at e6
        subst e6
        have hA := hD.2.1 i6 hln
        have hB := hW.1.2.2.2 i6 hln
        show pX2_isIn (S.1 42 i6) (nI i) _
        rw [hA.2.2.2.2.2.2.2.2.2.2.2.2.1]
        refine c_isIn hB.2.2.2.2.2.2.2.2.2.2.1 (by omega) ⟨fun w2 => next (fun _ q => ?_), fun w2 => ?_⟩
        · rw [q] at w2; exact absurd w2 (by decide)
        · have htw := (zI_1 _).mp w2
          have hrd := (((hW.2.1 i6 hln).2.2.1 i).mp htw).2.2.2.1
          rw [nu_cl (by omega), nu_cl (by omega), (hD.2.2.2 i6 hln hpl).2 hrd, h27]
          have hsl : sp σ p i6 ≤ 6 := srcB_le hW hln
          have e1 : nI (sp σ p i6) - 1 = nI s - 1 ↔ sp σ p i6 = s := by
            constructor
            · intro e
              have := congrArg (fun z : Int32 => z + 1) e
              simp only [Int32.sub_add_cancel] at this
              exact (nI_eq (by omega) (by omega)).mp this
            · intro e; rw [e]
          refine ⟨nu_in (by omega) (by decide), nu_in (by omega) (by decide), fun w3 => next (fun _ _ => e1.mp w3), fun w3 => hF (fun h => w3 (e1.mpr (h i6 hil hln hpl htw)))⟩
  intro y14 e14
  rw [nI_1] at e14
  subst e14
  exact ⟨σ 7 0 - (i + 1) + 1, loop _ (i + 1) (by omega) (by omega) (fun m a b => by omega)⟩
theorem c_may {i : Nat} {Q : Int32 → St → Prop} (hW : WS mo σ) (hD : DS σ p d S) (hi : i < σ 7 0) (h27 : rdK (σ 31 i) = true → S.1 27 i = nI (srcB σ p d i) - 1) (hT : C2 σ p d i → Q 1 S) (hF : ¬ C2 σ p d i → Q 0 S) : pX2_mayReadHere (nI i) (nI (bm σ p d)) S Q := by
  have h6 := hW.1.1
  have hin : vp_in (nI i) 6 := nu_in (by omega) (by decide)
  have hcl : (nI i).toNatClampNeg = i := nu_cl (by omega)
  obtain ⟨a1, a2, a3, a4, a5, a6, a7, a8, a9, a10, a11, a12, a13, a14⟩ := hD.2.1 i hi
  obtain ⟨i1, i2, i3, i4, i5, i6', i7, i8, i9, i10, i11, i12, i13⟩ := hW.1.2.2.2 i hi
  refine ⟨hin, fun j11 e11 => ?_⟩
  rw [hcl] at e11
  subst e11
  rw [a5, zI_n]
  refine ⟨fun z => ?_, fun z => hT (fun q => ?_)⟩
  · have hr := (zI_1 _).mp z
    have hsl : srcB σ p d j11 ≤ 6 := srcB_le hW hi
    rw [hcl, h27 hr]
    have k43 : ∀ t0 : Int32, t0 = nI (vl σ (srcB σ p d j11)) → vl σ (srcB σ p d j11) < 4 → bX2_mayReadHere_43 Q (nI j11) (nI (bm σ p d)) (nI (srcB σ p d j11) - 1) t0 S := by
      intro t0 et hv
      refine ⟨hin, fun j2 e2 => ?_⟩
      rw [hcl] at e2
      subst e2
      rw [et, a7]
      have ev : nI (vl σ (srcB σ p d j2)) = nI (σ 36 j2) ↔ vl σ (srcB σ p d j2) = σ 36 j2 := nI_eq (by omega) (by omega)
      have no : ¬ C2 σ p d j2 → bX2_mayReadHere_83 Q S := fun q => ⟨Or.inl rfl, hF q⟩
      have hsn : srcB σ p d j2 ≤ σ 7 0 := by
        by_cases z2 : srcB σ p d j2 = 0
        · omega
        · have := (srcB_i hW hi z2).1; omega
      refine ⟨fun w => no (fun c => w (ev.mpr (c hr).1)), fun w => ?_⟩
      refine c_fwd hW hD hsn (fun f => ⟨fun q => absurd q (by decide), fun _ => ?_⟩) (fun f => ⟨fun _ => no (fun c => f (c hr).2.1), fun q => absurd rfl q⟩)
      refine c_twins hW hD hi hsl (h27 hr) (fun g => ⟨fun q => absurd q (by decide), fun _ => ⟨Or.inr rfl, hT (fun _ => ⟨ev.mp w, f, g⟩)⟩⟩) (fun g => ⟨fun _ => no (fun c => g (c hr).2.2), fun q => absurd rfl q⟩)
    refine ⟨hin, fun y13 e13 => ?_⟩
    subst e13
    refine ⟨fun w => ?_, fun w => ?_⟩
    · have hne : srcB σ p d j11 ≠ 0 := fun q => w ((nu_m1 (by omega)).mpr q)
      have hlt := (srcB_i hW hi hne).1
      have hv := (hW.1.2.2.2 _ hlt).2.2.2.2.2.1
      have hA := (hD.2.1 _ hlt).2.2.2.2.2.2.2.1
      have ev : vl σ (srcB σ p d j11) = σ 37 (srcB σ p d j11 - 1) := by unfold vl; rw [if_neg hne]
      refine ⟨by rw [nu_pred (by omega)]; exact nu_in (by omega) (by decide), fun i15 e15 => ?_⟩
      rw [nu_pred (by omega), nu_cl (by omega)] at e15
      subst e15
      exact k43 _ (by rw [hA, ev]) (by rw [ev]; exact hv)
    · have h0 := (nu_m1 (by omega)).mp w
      exact k43 _ (by rw [h0]; rfl) (by rw [h0]; exact (by decide : (0 : Nat) < 4))
  · have hr := (zI_0 _).mp z
    rw [hr] at q; cases q
theorem c_atom {i : Nat} {Q : Int32 → St → Prop} (hW : WS mo σ) (hD : DS σ p d S) (hi : i < σ 7 0) (h1 : ∀ a, (σ 43 i).testBit a = true → p a < d) (hd : d ≤ 6) (hT : C3 σ p d i → Q 1 S) (hF : ¬ C3 σ p d i → Q 0 S) : pX2_isAtomic i (nI (bm σ p d)) S Q := by
  have h6 := hW.1.1
  obtain ⟨a1, a2, a3, a4, a5, a6, a7, a8, a9, a10, a11, a12, a13, a14⟩ := hD.2.1 i hi
  obtain ⟨i1, i2, i3, i4, i5, i6', i7, i8, i9, i10, i11, i12, i13⟩ := hW.1.2.2.2 i hi
  refine ⟨fun z => ?_, fun z => hT (fun q => ?_)⟩
  · rw [a11] at z ⊢
    have h0 : σ 40 i ≠ 0 := fun q => z ((nu_m1 (by omega)).mpr q)
    have h5 : σ 31 i = 5 := by
      by_cases q : σ 31 i = 5
      · exact q
      · exact absurd ((hW.2.1 i hi).2.2.2.2.2 q) h0
    obtain ⟨r, r1, r2, r3, r4, r5⟩ := (hW.2.1 i hi).2.2.2.2.1 h5
    have hrn : r < σ 7 0 := by omega
    have pr : p r < d := h1 r (((hW.2.1 i hi).1 r).mpr ⟨r2, r3, Or.inr (Or.inr (Or.inr (Or.inr (Or.inr (Or.inr (Or.inl ⟨h5, r1⟩))))))⟩)
    have hrd : rdK (σ 31 r) = true := by rw [r4]; rfl
    have h27 := (hD.2.2.2 r hrn pr).2 hrd
    have es : sp σ p r = srcB σ p (p r) r := rfl
    have hsl : sp σ p r ≤ 6 := srcB_le hW hrn
    unfold C3 at hT hF
    rw [r1, Nat.add_sub_cancel] at hT hF
    rw [r1, nI_pred, nu_cl (by omega), h27]
    -- the place of the source, plus 1
    have loop : ∀ (fr : Nat) (F : Int32), F = nI fr - 1 → fr ≤ 6 → (∀ w, w < σ 7 0 → p w < d → (nI (p w) ≤ F ↔ (sp σ p r ≠ 0 ∧ p w ≤ p (sp σ p r - 1)))) → ∀ c x, x + c = σ 7 0 → (∀ w, w < x → p w < d → wtK (σ 31 w) = true → σ 30 w ≠ σ 30 i → σ 32 w = σ 32 i → sp σ p r ≠ 0 ∧ p w ≤ p (sp σ p r - 1)) →
        itr (F := Nat → Int32 → Int32 → Int32 → St → Prop) (fun _ _ _ _ _ => False) (fun k40 x1 x2 x4 x5 S => bX2_isAtomic_40 k40 Q x1 x2 x4 x5 S) (c + 1) i (nI (bm σ p d)) F (nI x) S := by
      intro fr F eF hfr hcmp c
      induction c with
      | zero =>
        intro x hx hall
        refine ⟨fun _ => hT (fun _ w hw => hall w (by omega)), fun z => absurd (by rw [hD.1]; exact nI_le (by omega) (by omega)) z⟩
      | succ c ih =>
        intro x hx hall
        have hxn : x < σ 7 0 := by omega
        have next : (p x < d → wtK (σ 31 x) = true → σ 30 x ≠ σ 30 i → σ 32 x = σ 32 i → sp σ p r ≠ 0 ∧ p x ≤ p (sp σ p r - 1)) → bX2_isAtomic_130 (itr (F := Nat → Int32 → Int32 → Int32 → St → Prop) (fun _ _ _ _ _ => False) (fun k40 x1 x2 x4 x5 S => bX2_isAtomic_40 k40 Q x1 x2 x4 x5 S) (c + 1)) Q i (nI (bm σ p d)) F (nI x) S := by
          intro hq y1 e1
          rw [e1, nI_1]
          refine ih (x + 1) (by omega) (fun w a => ?_)
          by_cases z : w = x
          · subst z; exact hq
          · exact hall w (by omega)
        obtain ⟨b1, b2, b3, b4, b5, b6, b7, b8, b9, b10, b11, b12, b13, b14⟩ := hD.2.1 x hxn
        obtain ⟨j1, j2, j3, -⟩ := hW.1.2.2.2 x hxn
        have k99 : ¬ (wtK (σ 31 x) = true ∧ σ 30 x ≠ σ 30 i ∧ σ 32 x = σ 32 i) → bX2_isAtomic_99 (itr (F := Nat → Int32 → Int32 → Int32 → St → Prop) (fun _ _ _ _ _ => False) (fun k40 x1 x2 x4 x5 S => bX2_isAtomic_40 k40 Q x1 x2 x4 x5 S) (c + 1)) Q i (nI (bm σ p d)) F (nI x) S := by
          intro hno
          have nx := next (fun _ q1 q2 q3 => absurd ⟨q1, q2, q3⟩ hno)
          exact c_isIn (bm_lt hW) (by omega) ⟨fun _ => nx, fun _ => ⟨fun _ => nx, fun q => absurd rfl q⟩⟩
        have e30 : nI (σ 30 x) = nI (σ 30 i) ↔ σ 30 x = σ 30 i := nI_eq (by omega) (by omega)
        have e32 : nI (σ 32 x) = nI (σ 32 i) ↔ σ 32 x = σ 32 i := nI_eq (by omega) (by omega)
        refine ⟨fun z => by rw [hD.1, nI_leI (by omega) (by omega)] at z; omega, fun _ => ⟨nu_in (by omega) (by decide), fun i10 e10 => ?_⟩⟩
        rw [nu_cl (by omega)] at e10
        subst e10
        rw [b6, zI_n, b1, a1, b3, a3]
        refine ⟨fun w => k99 (fun q => ?_), fun w => ⟨fun w2 => k99 (fun q => q.2.1 (e30.mp w2)), fun w2 => ⟨fun w3 => k99 (fun q => w3 (e32.mpr q.2.2)), fun w3 => ?_⟩⟩⟩
        · rw [q.1] at w; exact absurd w (by decide)
        · have hwt := (zI_1 _).mp w
          have h30 : σ 30 i10 ≠ σ 30 i := fun q => w2 (e30.mpr q)
          have h32 := e32.mp w3
          refine c_isIn (bm_lt hW) (by omega) ⟨fun y => next (fun q => ?_), fun y => ⟨fun q => absurd q (by decide), fun _ => ?_⟩⟩
          · have := bm_t.mpr ⟨hxn, q⟩
            rw [this] at y; exact absurd y (by decide)
          · have hpx := (bm_t.mp ((zI_1 _).mp y)).2
            rw [nu_cl (by omega), (hD.2.2.2 i10 hxn hpx).1]
            have hc := hcmp i10 hxn hpx
            refine ⟨nu_in (by omega) (by decide), fun y2 => next (fun _ _ _ _ => hc.mp y2), fun y2 => hF (fun h => y2 (hc.mpr (h (by omega) i10 hxn hpx hwt h30 h32)))⟩
    have k35 : ∀ (fr : Nat) (F : Int32), F = nI fr - 1 → fr ≤ 6 → (∀ w, w < σ 7 0 → p w < d → (nI (p w) ≤ F ↔ (sp σ p r ≠ 0 ∧ p w ≤ p (sp σ p r - 1)))) → bX2_isAtomic_35 Q i (nI (bm σ p d)) F S := fun fr F a b c => ⟨σ 7 0 + 1, loop fr F a b c (σ 7 0) 0 (by omega) (fun w h => absurd h (Nat.not_lt_zero _))⟩
    refine ⟨nu_in (by omega) (by decide), fun y16 e16 => ?_⟩
    subst e16
    refine ⟨fun w => ?_, fun w => ?_⟩
    · have hne : sp σ p r ≠ 0 := fun q => w ((nu_m1 (by omega)).mpr q)
      obtain ⟨g1, g2, g3, g4⟩ := srcB_i hW hrn (show srcB σ p (p r) r ≠ 0 from hne)
      rw [← es] at g1 g2 g3 g4
      have ps : p (sp σ p r - 1) < d := by
        rcases g3 with g3 | ⟨-, g5, g6⟩
        · omega
        · exact h1 _ (rule1 hW hi (by omega) (by rw [g6, r3]) (by rw [h5]; rfl) (by rw [g4, r5]))
      rw [nu_pred (by omega), nu_cl (by omega)]
      refine ⟨nu_in (by omega) (by decide), ?_⟩
      rw [(hD.2.2.2 _ g1 ps).1]
      refine k35 (p (sp σ p r - 1) + 1) _ (by rw [nI_pred]) (by omega) (fun w hw hpw => ?_)
      rw [nI_leI (by omega) (by omega)]
      exact ⟨fun q => ⟨hne, q⟩, fun q => q.2⟩
    · have h0 := (nu_m1 (by omega)).mp w
      refine k35 0 _ rfl (by omega) (fun w hw hpw => ⟨fun q => ?_, fun q => absurd h0 q.1⟩)
      exfalso
      have h1 := Int32.le_iff_toInt_le.mp q
      rw [nI_toInt (by omega)] at h1
      have : (-1 : Int32).toInt = -1 := by decide
      omega
  · rw [a11] at z
    exact absurd ((nu_m1 (by omega)).mp z) q
end CEX
