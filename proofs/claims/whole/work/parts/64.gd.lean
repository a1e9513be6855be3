/-! what is a good instruction, in the class's words and in the reference's -/
def soR (x : Int32) : Prop := 0 ≤ x.toInt ∧ x.toInt ≤ 3
def soX (x : Int32) : Prop := 0 ≤ x.toInt ∧ x.toInt ≤ 2
def soY (x : Int32) : Prop := -1 ≤ x.toInt ∧ x.toInt ≤ 3
def soL (x : Int32) : Prop := x.toInt = 0 ∨ x.toInt = 1 ∨ x.toInt = 3
def soS (x : Int32) : Prop := x.toInt = 0 ∨ x.toInt = 2
def soN (x : Int32) : Prop := 1 ≤ x.toInt ∧ x.toInt ≤ 5
theorem ti_m1 : (-1 : Int32).toInt = -1 := by decide
theorem ti_0 : (0 : Int32).toInt = 0 := by decide
theorem ti_1 : (1 : Int32).toInt = 1 := by decide
theorem ti_2 : (2 : Int32).toInt = 2 := by decide
theorem ti_3 : (3 : Int32).toInt = 3 := by decide
theorem ti_4 : (4 : Int32).toInt = 4 := by decide
theorem ti_5 : (5 : Int32).toInt = 5 := by decide
def srt (c : Nat) (x : Int32) : Prop :=
  if c = 108 then soL x else if c = 110 then soN x else if c = 115 then soS x else if c = 120 then soX x else if c = 121 then soY x else soR x
theorem c_169 {x : Int32} {Q : Int32 → Prop} (hT : soR x → Q 1) (hF : ¬ soR x → Q 0) : bX4_isOfSort_169 Q x := by
  unfold soR at hT hF
  refine ⟨fun z => ⟨zb_0, hF ?_⟩, fun z => ⟨fun z2 => ⟨zb_0, hF ?_⟩, fun z2 => ⟨zb_1, hT ?_⟩⟩⟩
  · rw [Int32.lt_iff_toInt_lt, ti_0] at z; omega
  · rw [Int32.lt_iff_toInt_lt, ti_3] at z2; omega
  · rw [Int32.lt_iff_toInt_lt, ti_0] at z; rw [Int32.lt_iff_toInt_lt, ti_3] at z2; omega
theorem c_isOfSort {c : Nat} {x : Int32} {Q : Int32 → Prop} (hc : c = 102 ∨ c = 108 ∨ c = 109 ∨ c = 110 ∨ c = 114 ∨ c = 115 ∨ c = 118 ∨ c = 120 ∨ c = 121) (hT : srt c x → Q 1) (hF : ¬ srt c x → Q 0) : pX4_isOfSort (nI c) x Q := by
  rcases hc with rfl | rfl | rfl | rfl | rfl | rfl | rfl | rfl | rfl
  · have := c_169 (x := x) (Q := Q) hT hF
    refine ⟨fun _ => this, ?_, ?_, ?_, ?_, ?_, ?_, ?_, ?_, ?_, ?_, ?_, ?_, ?_, ?_⟩ <;> intro z <;> exact absurd z (by decide)
  · have h : (x = 0 → bX4_isOfSort_132 Q) ∧ (¬ (x = 0) → ((x = (1 : Int32) → bX4_isOfSort_132 Q ) ∧ (¬ (x = (1 : Int32)) → ((¬ x = (3 : Int32) → bX4_isOfSort_137 Q (0 : Int32)) ∧ (x = (3 : Int32) → bX4_isOfSort_132 Q ))))) := by
      simp only [← Int32.toInt_inj, ti_0, ti_1, ti_3]
      refine ⟨fun z => ⟨zb_1, hT (Or.inl z)⟩, fun z => ⟨fun z2 => ⟨zb_1, hT (Or.inr (Or.inl z2))⟩, fun z2 => ⟨fun z3 => ⟨zb_0, hF ?_⟩, fun z3 => ⟨zb_1, hT (Or.inr (Or.inr z3))⟩⟩⟩⟩
      rintro (q | q | q)
      · exact z q
      · exact z2 q
      · exact z3 q
    refine ⟨?_, fun _ => h, ?_, ?_, ?_, ?_, ?_, ?_, ?_, ?_, ?_, ?_, ?_, ?_, ?_⟩ <;> intro z <;> exact absurd z (by decide)
  · have := c_169 (x := x) (Q := Q) hT hF
    refine ⟨?_, ?_, fun _ => this, ?_, ?_, ?_, ?_, ?_, ?_, ?_, ?_, ?_, ?_, ?_, ?_⟩ <;> intro z <;> exact absurd z (by decide)
  · have h : ((x < (1 : Int32) → bX4_isOfSort_167 Q ) ∧ (¬ (x < (1 : Int32)) → (((5 : Int32) < x → bX4_isOfSort_167 Q ) ∧ (¬ ((5 : Int32) < x) → bX4_isOfSort_168 Q (1 : Int32))))) := by
      simp only [Int32.lt_iff_toInt_lt, ti_1, ti_5]
      have hT : soN x → Q 1 := hT
      have hF : ¬ soN x → Q 0 := hF
      unfold soN at hT hF
      exact ⟨fun z => ⟨zb_0, hF (by omega)⟩, fun z => ⟨fun z2 => ⟨zb_0, hF (by omega)⟩, fun z2 => ⟨zb_1, hT (by omega)⟩⟩⟩
    refine ⟨?_, ?_, ?_, fun _ => h, ?_, ?_, ?_, ?_, ?_, ?_, ?_, ?_, ?_, ?_, ?_⟩ <;> intro z <;> exact absurd z (by decide)
  · have h : ((x < 0 → bX4_isOfSort_85 Q ) ∧ (¬ (x < 0) → (((4 : Int32) ≤ x → bX4_isOfSort_85 Q ) ∧ (¬ ((4 : Int32) ≤ x) → bX4_isOfSort_86 Q (1 : Int32))))) := by
      simp only [Int32.lt_iff_toInt_lt, Int32.le_iff_toInt_le, ti_0, ti_4]
      have hT : soR x → Q 1 := hT
      have hF : ¬ soR x → Q 0 := hF
      unfold soR at hT hF
      exact ⟨fun z => ⟨zb_0, hF (by omega)⟩, fun z => ⟨fun z2 => ⟨zb_0, hF (by omega)⟩, fun z2 => ⟨zb_1, hT (by omega)⟩⟩⟩
    refine ⟨?_, ?_, ?_, ?_, ?_, ?_, ?_, fun _ => h, ?_, ?_, ?_, ?_, ?_, ?_, ?_⟩ <;> intro z <;> exact absurd z (by decide)
  · have h : ((x = 0 → bX4_isOfSort_147 Q ) ∧ (¬ (x = 0) → ((¬ x = (2 : Int32) → bX4_isOfSort_152 Q (0 : Int32)) ∧ (x = (2 : Int32) → bX4_isOfSort_147 Q )))) := by
      simp only [← Int32.toInt_inj, ti_0, ti_2]
      refine ⟨fun z => ⟨zb_1, hT (Or.inl z)⟩, fun z => ⟨fun z3 => ⟨zb_0, hF ?_⟩, fun z3 => ⟨zb_1, hT (Or.inr z3)⟩⟩⟩
      rintro (q | q)
      · exact z q
      · exact z3 q
    refine ⟨?_, ?_, ?_, ?_, ?_, ?_, ?_, ?_, fun _ => h, ?_, ?_, ?_, ?_, ?_, ?_⟩ <;> intro z <;> exact absurd z (by decide)
  · have := c_169 (x := x) (Q := Q) hT hF
    refine ⟨?_, ?_, ?_, ?_, ?_, ?_, ?_, ?_, ?_, ?_, ?_, fun _ => this, ?_, ?_, ?_⟩ <;> intro z <;> exact absurd z (by decide)
  · have h : ((x < 0 → bX4_isOfSort_100 Q ) ∧ (¬ (x < 0) → (((3 : Int32) ≤ x → bX4_isOfSort_100 Q ) ∧ (¬ ((3 : Int32) ≤ x) → bX4_isOfSort_101 Q (1 : Int32))))) := by
      simp only [Int32.lt_iff_toInt_lt, Int32.le_iff_toInt_le, ti_0, ti_3]
      have hT : soX x → Q 1 := hT
      have hF : ¬ soX x → Q 0 := hF
      unfold soX at hT hF
      exact ⟨fun z => ⟨zb_0, hF (by omega)⟩, fun z => ⟨fun z2 => ⟨zb_0, hF (by omega)⟩, fun z2 => ⟨zb_1, hT (by omega)⟩⟩⟩
    refine ⟨?_, ?_, ?_, ?_, ?_, ?_, ?_, ?_, ?_, ?_, ?_, ?_, ?_, fun _ => h, ?_⟩ <;> intro z <;> exact absurd z (by decide)
  · have h : ((x < (-1 : Int32) → bX4_isOfSort_116 Q ) ∧ (¬ (x < (-1 : Int32)) → (((4 : Int32) ≤ x → bX4_isOfSort_116 Q ) ∧ (¬ ((4 : Int32) ≤ x) → bX4_isOfSort_117 Q (1 : Int32))))) := by
      simp only [Int32.lt_iff_toInt_lt, Int32.le_iff_toInt_le, ti_m1, ti_4]
      have hT : soY x → Q 1 := hT
      have hF : ¬ soY x → Q 0 := hF
      unfold soY at hT hF
      exact ⟨fun z => ⟨zb_0, hF (by omega)⟩, fun z => ⟨fun z2 => ⟨zb_0, hF (by omega)⟩, fun z2 => ⟨zb_1, hT (by omega)⟩⟩⟩
    refine ⟨?_, ?_, ?_, ?_, ?_, ?_, ?_, ?_, ?_, ?_, ?_, ?_, ?_, ?_, fun _ => h⟩ <;> intro z <;> exact absurd z (by decide)
/-- the form of a kind -/
def frm (k : Nat) : Nat := if k = 0 ∨ k = 4 then 0 else if k = 1 then 1 else if k = 2 ∨ k = 3 ∨ k = 5 then 2 else if k = 6 then 3 else if k = 7 then 4 else if k = 8 ∨ k = 9 then 5 else 6
def lnK (k : Nat) : Nat := sLen.getD (frm k) 0
def chr (f j : Nat) : Nat := (([[114, 120, 121, 108], [114, 120, 121, 115], [114, 114, 120, 121, 109], [102, 102], [114, 118], [114, 114, 114], [114, 110]] : List (List Nat)).getD f []).getD j 0
theorem chr_eq : ∀ f, f < 7 → ∀ j, j < sLen.getD f 0 → sCh f j = nI (chr f j) ∧ (chr f j = 102 ∨ chr f j = 108 ∨ chr f j = 109 ∨ chr f j = 110 ∨ chr f j = 114 ∨ chr f j = 115 ∨ chr f j = 118 ∨ chr f j = 120 ∨ chr f j = 121) := by decide +kernel
theorem frm_lt : ∀ k, k < 11 → frm k < 7 ∧ lnK k ≤ 5 := by decide
def gdP (k : Nat) (x : Nat → Int32) : Prop := ∀ j, j < lnK k → srt (chr (frm k) j) (x (j + 1))
theorem c_formOf {k : Nat} {Q : Nat → Prop} (hk : k < 11) (hQ : Q (frm k)) : pX4_formOf (nI k) Q := by
  rcases (show k = 0 ∨ k = 1 ∨ k = 2 ∨ k = 3 ∨ k = 4 ∨ k = 5 ∨ k = 6 ∨ k = 7 ∨ k = 8 ∨ k = 9 ∨ k = 10 by omega) with rfl | rfl | rfl | rfl | rfl | rfl | rfl | rfl | rfl | rfl | rfl <;> (refine ⟨?_, ?_, ?_, ?_, ?_, ?_, ?_, ?_, ?_, ?_, ?_⟩ <;> intro z <;> first | exact hQ | exact absurd z (by decide))
theorem c_good {x : Nat → Int32} {S : St} {Q : Int32 → St → Prop} (hx : ∀ j, j < 6 → S.1 21 j = x j) (hT : ∀ k, k < 11 → x 0 = nI k → gdP k x → Q 1 S) (hF : (∀ k, k < 11 → x 0 = nI k → ¬ gdP k x) → Q 0 S) : pX4_isDraftGood S Q := by
  unfold pX4_isDraftGood
  rw [hx 0 (by decide)]
  rcases i_rng (x := x 0) (k := 11) (by decide) with g | ⟨k, ek, hk⟩
  · have hn : Q 0 S := hF (fun k hk e _ => i_no (by decide) ⟨k, e, hk⟩ g)
    refine ⟨fun _ => hn, fun z => ⟨fun z2 => ?_, fun _ => hn⟩⟩
    rcases g with g | g
    · exact absurd g z
    · exact absurd g (Int32.not_le.mpr z2)
  · have hn : ¬ gdP k x → Q 0 S := fun q => hF (fun k' hk' e => by
      rw [ek] at e
      rw [← (nI_eq (by omega) (by omega)).mp e]; exact q)
    rw [ek]
    refine ⟨fun z => absurd z (nI_pos (by omega)), fun _ => ⟨fun _ => c_formOf hk ⟨lnK k + 1, ?_⟩, fun z => absurd (nI_lt hk (by decide)) z⟩⟩
    obtain ⟨f1, f2⟩ := frm_lt k hk
    have loop : ∀ d i, i + d = lnK k → (∀ j, j < i → srt (chr (frm k) j) (x (j + 1))) → itr (F := Nat → Int32 → St → Prop) (fun _ _ _ => False) (fun k34 x1 x2 S => bX4_isDraftGood_34 k34 Q x1 x2 S) (d + 1) (frm k) (nI i) S := by
      intro d
      induction d with
      | zero =>
        intro i hi hall
        have : i = lnK k := by omega
        subst this
        exact ⟨fun _ => hT k hk ek hall, fun z => absurd (nI_le (Nat.le_refl _) (Nat.lt_of_le_of_lt (show sLen.getD (frm k) 0 ≤ 5 from f2) (by decide))) z⟩
      | succ d ih =>
        intro i hi hall
        have hil : i < lnK k := by omega
        obtain ⟨c1, c2⟩ := chr_eq (frm k) f1 i hil
        refine ⟨fun z => ?_, fun _ => ⟨nu_in hil (Nat.lt_of_le_of_lt (show sLen.getD (frm k) 0 ≤ 5 from f2) (by decide)), ?_⟩⟩
        · have : nI (lnK k) ≤ nI i := z
          rw [nI_leI (by omega) (by omega)] at this; omega
        · rw [nI_1, nu_cl (by omega), nu_cl (by omega), c1, hx (i + 1) (by omega)]
          refine ⟨nu_in (by omega) (by decide), c_isOfSort c2 (fun q => ⟨fun _ y4 e4 => ?_, fun y => absurd y (by decide)⟩) (fun q => ⟨fun y => absurd rfl y, fun _ => hn (fun h => q (h i hil))⟩)⟩
          rw [e4]
          refine ih (i + 1) (by omega) (fun j hj => ?_)
          by_cases e : j = i
          · subst e; exact q
          · exact hall j (by omega)
    exact loop (lnK k) 0 (by omega) (fun j h => absurd h (Nat.not_lt_zero _))
theorem m_reg {x : Int32} {Q : Int32 → Prop} (hT : soR x → Q 1) (hF : ¬ soR x → Q 0) : pX7_in x (0 : Int32) (3 : Int32) Q := by
  unfold soR at hT hF
  refine m_in (fun a b => hT ?_) (fun q => hF ?_)
  · rw [Int32.lt_iff_toInt_lt, ti_0] at a; rw [Int32.lt_iff_toInt_lt, ti_3] at b; omega
  · rw [Int32.lt_iff_toInt_lt, Int32.lt_iff_toInt_lt, ti_0, ti_3] at q; omega
theorem m_isRegister {x : Int32} {Q : Int32 → Prop} (hT : soR x → Q 1) (hF : ¬ soR x → Q 0) : pX7_isRegister x Q := m_reg (fun q => ⟨zb_1, hT q⟩) (fun q => ⟨zb_0, hF q⟩)
theorem m_isPlace {x y : Int32} {Q : Int32 → Prop} (hT : soX x → soY y → Q 1) (hF : ¬ (soX x ∧ soY y) → Q 0) : pX7_isPlace x y Q := by
  unfold soX soY at hT hF
  refine m_in (fun a b => ⟨fun z => absurd z (by decide), fun _ => m_in (fun c d => ⟨fun z => absurd z (by decide), fun _ => ⟨zb_1, hT ?_ ?_⟩⟩) (fun q => ⟨fun _ => ⟨zb_0, hF ?_⟩, fun z => absurd rfl z⟩)⟩) (fun q => ⟨fun _ => ⟨zb_0, hF ?_⟩, fun z => absurd rfl z⟩)
  · rw [Int32.lt_iff_toInt_lt, ti_0] at a; rw [Int32.lt_iff_toInt_lt, ti_2] at b; omega
  · rw [Int32.lt_iff_toInt_lt, ti_m1] at c; rw [Int32.lt_iff_toInt_lt, ti_3] at d; omega
  · rw [Int32.lt_iff_toInt_lt, Int32.lt_iff_toInt_lt, ti_m1, ti_3] at q; omega
  · rw [Int32.lt_iff_toInt_lt, Int32.lt_iff_toInt_lt, ti_0, ti_2] at q; omega
theorem all2 {p : Nat → Prop} : (∀ j, j < 2 → p j) ↔ p 0 ∧ p 1 := by
  constructor
  · intro h; exact ⟨h 0 (by decide), h 1 (by decide)⟩
  · rintro ⟨a, b⟩ j hj
    rcases (show j = 0 ∨ j = 1 by omega) with rfl | rfl
    · exact a
    · exact b
theorem all3 {p : Nat → Prop} : (∀ j, j < 3 → p j) ↔ p 0 ∧ p 1 ∧ p 2 := by
  constructor
  · intro h; exact ⟨h 0 (by decide), h 1 (by decide), h 2 (by decide)⟩
  · rintro ⟨a, b, c⟩ j hj
    rcases (show j = 0 ∨ j = 1 ∨ j = 2 by omega) with rfl | rfl | rfl
    · exact a
    · exact b
    · exact c
theorem all4 {p : Nat → Prop} : (∀ j, j < 4 → p j) ↔ p 0 ∧ p 1 ∧ p 2 ∧ p 3 := by
  constructor
  · intro h; exact ⟨h 0 (by decide), h 1 (by decide), h 2 (by decide), h 3 (by decide)⟩
  · rintro ⟨a, b, c, d⟩ j hj
    rcases (show j = 0 ∨ j = 1 ∨ j = 2 ∨ j = 3 by omega) with rfl | rfl | rfl | rfl
    · exact a
    · exact b
    · exact c
    · exact d
theorem all5 {p : Nat → Prop} : (∀ j, j < 5 → p j) ↔ p 0 ∧ p 1 ∧ p 2 ∧ p 3 ∧ p 4 := by
  constructor
  · intro h; exact ⟨h 0 (by decide), h 1 (by decide), h 2 (by decide), h 3 (by decide), h 4 (by decide)⟩
  · rintro ⟨a, b, c, d, e⟩ j hj
    rcases (show j = 0 ∨ j = 1 ∨ j = 2 ∨ j = 3 ∨ j = 4 by omega) with rfl | rfl | rfl | rfl | rfl
    · exact a
    · exact b
    · exact c
    · exact d
    · exact e
section GDK
variable {x : Nat → Int32}
theorem gd_0 : gdP 0 x ↔ soR (x 1) ∧ soX (x 2) ∧ soY (x 3) ∧ soL (x 4) := all4
theorem gd_4 : gdP 4 x ↔ soR (x 1) ∧ soX (x 2) ∧ soY (x 3) ∧ soL (x 4) := all4
theorem gd_1 : gdP 1 x ↔ soR (x 1) ∧ soX (x 2) ∧ soY (x 3) ∧ soS (x 4) := all4
theorem gd_2 : gdP 2 x ↔ soR (x 1) ∧ soR (x 2) ∧ soX (x 3) ∧ soY (x 4) ∧ soR (x 5) := all5
theorem gd_3 : gdP 3 x ↔ soR (x 1) ∧ soR (x 2) ∧ soX (x 3) ∧ soY (x 4) ∧ soR (x 5) := all5
theorem gd_5 : gdP 5 x ↔ soR (x 1) ∧ soR (x 2) ∧ soX (x 3) ∧ soY (x 4) ∧ soR (x 5) := all5
theorem gd_6 : gdP 6 x ↔ soR (x 1) ∧ soR (x 2) := all2
theorem gd_7 : gdP 7 x ↔ soR (x 1) ∧ soR (x 2) := all2
theorem gd_8 : gdP 8 x ↔ soR (x 1) ∧ soR (x 2) ∧ soR (x 3) := all3
theorem gd_9 : gdP 9 x ↔ soR (x 1) ∧ soR (x 2) ∧ soR (x 3) := all3
theorem gd_10 : gdP 10 x ↔ soR (x 1) ∧ soN (x 2) := all2
theorem m_60 {Q : Int32 → Prop} (hT : (soR (x 1) ∧ soX (x 2) ∧ soY (x 3) ∧ soL (x 4)) → Q 1) (hF : ¬ (soR (x 1) ∧ soX (x 2) ∧ soY (x 3) ∧ soL (x 4)) → Q 0) : bX7_isGood_60 Q (x 1) (x 2) (x 3) (x 4) := by
  refine m_isRegister (fun r => ⟨fun z => absurd z (by decide), fun _ => m_isPlace (fun a b => ⟨fun z => absurd z (by decide), fun _ => ?_⟩) (fun q => ⟨fun _ => ⟨zb_0, hF (fun h => q ⟨h.2.1, h.2.2.1⟩)⟩, fun y => absurd rfl y⟩)⟩) (fun q => ⟨fun _ => ⟨zb_0, hF (fun h => q h.1)⟩, fun y => absurd rfl y⟩)
  simp only [← Int32.toInt_inj, ti_0, ti_1, ti_3]
  refine ⟨fun z => ⟨zb_1, hT ⟨r, a, b, Or.inl z⟩⟩, fun z => ⟨fun z2 => ⟨zb_1, hT ⟨r, a, b, Or.inr (Or.inl z2)⟩⟩, fun z2 => ⟨fun z3 => ⟨zb_0, hF ?_⟩, fun z3 => ⟨zb_1, hT ⟨r, a, b, Or.inr (Or.inr z3)⟩⟩⟩⟩⟩
  rintro ⟨-, -, -, q | q | q⟩
  · exact z q
  · exact z2 q
  · exact z3 q
theorem m_130 {Q : Int32 → Prop} (hT : (soR (x 1) ∧ soR (x 2) ∧ soX (x 3) ∧ soY (x 4) ∧ soR (x 5)) → Q 1) (hF : ¬ (soR (x 1) ∧ soR (x 2) ∧ soX (x 3) ∧ soY (x 4) ∧ soR (x 5)) → Q 0) : bX7_isGood_130 Q (x 1) (x 2) (x 3) (x 4) (x 5) :=
  m_isRegister (fun r => ⟨fun z => absurd z (by decide), fun _ => m_isRegister (fun r2 => ⟨fun z => absurd z (by decide), fun _ => m_isPlace (fun a b => ⟨fun z => absurd z (by decide), fun _ => m_reg (fun r3 => ⟨fun z => absurd z (by decide), fun _ => ⟨zb_1, hT ⟨r, r2, a, b, r3⟩⟩⟩) (fun q => ⟨fun _ => ⟨zb_0, hF (fun h => q h.2.2.2.2)⟩, fun y => absurd rfl y⟩)⟩) (fun q => ⟨fun _ => ⟨zb_0, hF (fun h => q ⟨h.2.2.1, h.2.2.2.1⟩)⟩, fun y => absurd rfl y⟩)⟩) (fun q => ⟨fun _ => ⟨zb_0, hF (fun h => q h.2.1)⟩, fun y => absurd rfl y⟩)⟩) (fun q => ⟨fun _ => ⟨zb_0, hF (fun h => q h.1)⟩, fun y => absurd rfl y⟩)
theorem m_169 {Q : Int32 → Prop} (hT : (soR (x 1) ∧ soR (x 2)) → Q 1) (hF : ¬ (soR (x 1) ∧ soR (x 2)) → Q 0) : bX7_isGood_169 Q (x 1) (x 2) :=
  m_reg (fun r => ⟨fun z => absurd z (by decide), fun _ => m_reg (fun r2 => ⟨fun z => absurd z (by decide), fun _ => ⟨zb_1, hT ⟨r, r2⟩⟩⟩) (fun q => ⟨fun _ => ⟨zb_0, hF (fun h => q h.2)⟩, fun y => absurd rfl y⟩)⟩) (fun q => ⟨fun _ => ⟨zb_0, hF (fun h => q h.1)⟩, fun y => absurd rfl y⟩)
theorem m_193 {Q : Int32 → Prop} (hT : (soR (x 1) ∧ soR (x 2) ∧ soR (x 3)) → Q 1) (hF : ¬ (soR (x 1) ∧ soR (x 2) ∧ soR (x 3)) → Q 0) : bX7_isGood_193 Q (x 1) (x 2) (x 3) :=
  m_isRegister (fun r => ⟨fun z => absurd z (by decide), fun _ => m_isRegister (fun r2 => ⟨fun z => absurd z (by decide), fun _ => m_isRegister (fun r3 => ⟨fun z => absurd z (by decide), fun _ => ⟨zb_1, hT ⟨r, r2, r3⟩⟩⟩) (fun q => ⟨fun _ => ⟨zb_0, hF (fun h => q h.2.2)⟩, fun y => absurd rfl y⟩)⟩) (fun q => ⟨fun _ => ⟨zb_0, hF (fun h => q h.2.1)⟩, fun y => absurd rfl y⟩)⟩) (fun q => ⟨fun _ => ⟨zb_0, hF (fun h => q h.1)⟩, fun y => absurd rfl y⟩)
theorem m_good {Q : Int32 → Prop} (hT : ∀ k, k < 11 → x 0 = nI k → gdP k x → Q 1) (hF : (∀ k, k < 11 → x 0 = nI k → ¬ gdP k x) → Q 0) : pX7_isGood (x 0) (x 1) (x 2) (x 3) (x 4) (x 5) Q := by
  have ne : ∀ a b, a < 11 → b < 11 → a ≠ b → nI a ≠ nI b := fun a b ha hb h e => h ((nI_eq (by omega) (by omega)).mp e)
  by_cases g : Int32.toInt (x 0) < 0 ∨ 10 < Int32.toInt (x 0)
  · have no : ∀ k, k < 11 → x 0 ≠ nI k := fun k hk e => by rw [e, nI_toInt (by omega)] at g; omega
    refine ⟨fun _ => hF (fun k hk e => absurd e (no k hk)), fun e => absurd e (no 0 (by decide)), fun e => absurd e (no 1 (by decide)), fun e => absurd e (no 2 (by decide)), fun e => absurd e (no 3 (by decide)), fun e => absurd e (no 4 (by decide)), fun e => absurd e (no 5 (by decide)), fun e => absurd e (no 6 (by decide)), fun e => absurd e (no 7 (by decide)), fun e => absurd e (no 8 (by decide)), fun e => absurd e (no 9 (by decide)), fun e => absurd e (no 10 (by decide))⟩
  · have hF' : ∀ k, k < 11 → x 0 = nI k → ¬ gdP k x → Q 0 := fun k hk ek q => hF (fun k' hk' e => by
      rw [ek] at e
      rw [← (nI_eq (by omega) (by omega)).mp e]; exact q)
    refine ⟨fun z => absurd z g, fun e => m_60 (fun q => hT 0 (by decide) e (gd_0.mpr q)) (fun q => hF' 0 (by decide) e (fun h => q (gd_0.mp h))), fun e => ?_, fun e => m_130 (fun q => hT 2 (by decide) e (gd_2.mpr q)) (fun q => hF' 2 (by decide) e (fun h => q (gd_2.mp h))), fun e => m_130 (fun q => hT 3 (by decide) e (gd_3.mpr q)) (fun q => hF' 3 (by decide) e (fun h => q (gd_3.mp h))), fun e => m_60 (fun q => hT 4 (by decide) e (gd_4.mpr q)) (fun q => hF' 4 (by decide) e (fun h => q (gd_4.mp h))), fun e => m_130 (fun q => hT 5 (by decide) e (gd_5.mpr q)) (fun q => hF' 5 (by decide) e (fun h => q (gd_5.mp h))), fun e => m_169 (fun q => hT 6 (by decide) e (gd_6.mpr q)) (fun q => hF' 6 (by decide) e (fun h => q (gd_6.mp h))), fun e => m_169 (fun q => hT 7 (by decide) e (gd_7.mpr q)) (fun q => hF' 7 (by decide) e (fun h => q (gd_7.mp h))), fun e => m_193 (fun q => hT 8 (by decide) e (gd_8.mpr q)) (fun q => hF' 8 (by decide) e (fun h => q (gd_8.mp h))), fun e => m_193 (fun q => hT 9 (by decide) e (gd_9.mpr q)) (fun q => hF' 9 (by decide) e (fun h => q (gd_9.mp h))), fun e => ?_⟩
    · have hn : ¬ (soR (x 1) ∧ soX (x 2) ∧ soY (x 3) ∧ soS (x 4)) → Q 0 := fun q => hF' 1 (by decide) e (fun h => q (gd_1.mp h))
      refine m_isRegister (fun r => ⟨fun z => absurd z (by decide), fun _ => m_isPlace (fun a b => ⟨fun z => absurd z (by decide), fun _ => ?_⟩) (fun q => ⟨fun _ => ⟨zb_0, hn (fun h => q ⟨h.2.1, h.2.2.1⟩)⟩, fun y => absurd rfl y⟩)⟩) (fun q => ⟨fun _ => ⟨zb_0, hn (fun h => q h.1)⟩, fun y => absurd rfl y⟩)
      simp only [← Int32.toInt_inj (x := x 4), ti_0, ti_2]
      refine ⟨fun z => ⟨zb_1, hT 1 (by decide) e (gd_1.mpr ⟨r, a, b, Or.inl z⟩)⟩, fun z => ⟨fun z3 => ⟨zb_0, hn ?_⟩, fun z3 => ⟨zb_1, hT 1 (by decide) e (gd_1.mpr ⟨r, a, b, Or.inr z3⟩)⟩⟩⟩
      rintro ⟨-, -, -, q | q⟩
      · exact z q
      · exact z3 q
    · have hn : ¬ (soR (x 1) ∧ soN (x 2)) → Q 0 := fun q => hF' 10 (by decide) e (fun h => q (gd_10.mp h))
      refine m_isRegister (fun r => ⟨fun z => absurd z (by decide), fun _ => m_in (fun a b => ⟨fun z => absurd z (by decide), fun _ => ⟨zb_1, hT 10 (by decide) e (gd_10.mpr ⟨r, ?_⟩)⟩⟩) (fun q => ⟨fun _ => ⟨zb_0, hn (fun h => ?_)⟩, fun y => absurd rfl y⟩)⟩) (fun q => ⟨fun _ => ⟨zb_0, hn (fun h => q h.1)⟩, fun y => absurd rfl y⟩)
      · rw [Int32.lt_iff_toInt_lt, ti_1] at a; rw [Int32.lt_iff_toInt_lt, ti_5] at b
        unfold soN; omega
      · rw [Int32.lt_iff_toInt_lt, Int32.lt_iff_toInt_lt, ti_1, ti_5] at q
        have := h.2
        unfold soN at this; omega
end GDK
