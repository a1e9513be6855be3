/-! both, with, instruction, count -/
theorem l_and3 (y : Int64) : y &&& 3 = lN (y.toBitVec.toNat % 4) := by
  apply Int64.toBitVec_inj.mp
  apply BitVec.eq_of_toNat_eq
  show (y.toBitVec &&& 3#64).toNat = (BitVec.ofNat 64 (y.toBitVec.toNat % 4)).toNat
  rw [BitVec.toNat_and, BitVec.toNat_ofNat, BitVec.toNat_ofNat, show 3 % 2 ^ 64 = 2 ^ 2 - 1 from rfl, Nat.and_two_pow_sub_one_eq_mod]
  have : y.toBitVec.toNat % 4 < 4 := Nat.mod_lt _ (by decide)
  rw [Nat.mod_eq_of_lt (a := y.toBitVec.toNat % 4) (by omega)]
theorem i_and3 (y : Int64) : y.toInt32 &&& 3 = nI (y.toBitVec.toNat % 4) := by
  apply Int32.toBitVec_inj.mp
  apply BitVec.eq_of_toNat_eq
  show (y.toInt32.toBitVec &&& 3#32).toNat = (BitVec.ofNat 32 (y.toBitVec.toNat % 4)).toNat
  rw [BitVec.toNat_and, BitVec.toNat_ofNat, BitVec.toNat_ofNat, show 3 % 2 ^ 32 = 2 ^ 2 - 1 from rfl, Nat.and_two_pow_sub_one_eq_mod]
  have e : y.toInt32.toBitVec.toNat = y.toBitVec.toNat % 2 ^ 32 := by
    rw [Int64.toBitVec_toInt32, BitVec.signExtend_eq_setWidth_of_le _ (by decide), BitVec.toNat_setWidth]
  have : y.toBitVec.toNat % 4 < 4 := Nat.mod_lt _ (by decide)
  rw [e, Nat.mod_eq_of_lt (a := y.toBitVec.toNat % 4) (by omega)]
  omega
theorem yK_0 (k : Nat) : yK k ≠ 0 := by
  unfold yK
  split
  · decide
  · split <;> decide
/-- one part of an outcome -/
def ptN (x : Int64) (w : Int32) : Nat := (x >>> (Int32.toInt64 ((2 : Int32) * w) &&& 63)).toBitVec.toNat % 4
theorem ptN_lt (x : Int64) (w : Int32) : ptN x w < 4 := Nat.mod_lt _ (by decide)
theorem c_part {x : Int64} {w : Int32} {Q : Int32 → Prop} (hQ : Q (nI (ptN x w))) : pX3_partOf x w Q := by
  unfold pX3_partOf
  rw [i_and3]; exact hQ
theorem m_has {x : Int64} {w : Int32} {b : Nat} {Q : Int32 → Prop} (hb : b < 4) (hQ : Q (zI (decide (ptN x w = b)))) : pX7_has x w (nI b) Q := by
  have := ptN_lt x w
  have e : lg_cmp ((x >>> (Int32.toInt64 ((2 : Int32) * w) &&& 63)) &&& (3 : Int64)) (Int32.toInt64 (nI b)) = 0 ↔ ptN x w = b := by
    rw [lg_cmp_eq, l_and3, nI_l (by omega), lN_eq (by unfold ptN at this; omega) (by omega)]
    rfl
  refine ⟨fun z => ⟨zb_0, ?_⟩, fun z => ⟨zb_1, ?_⟩⟩
  · rw [decide_eq_false (fun q => z (e.mpr q))] at hQ; exact hQ
  · rw [decide_eq_true (e.mp z)] at hQ; exact hQ
def bq (w1 : Int32) (b1 : Nat) (w2 : Int32) (b2 : Nat) (x : Int64) : Bool := decide (ptN x w1 = b1) && decide (ptN x w2 = b2)
def hmy (q : Int64 → Bool) (l : List Int64) : Nat → Nat
  | 0 => 0
  | i + 1 => hmy q l i + b2n (q (l.getD i 0))
theorem hmy_le (q : Int64 → Bool) (l : List Int64) : ∀ i, hmy q l i ≤ i
  | 0 => Nat.le_refl _
  | i + 1 => by
    have := hmy_le q l i
    have := b2n_le (q (l.getD i 0))
    rw [hmy]; omega
section ST2
variable {mo : Nat} {P : Nat → Nat → Nat → Nat} {L : Nat → Nat} {fo : Bool}
theorem c_howMany {w1 w2 : Int32} {b1 b2 : Nat} {S : St} {l : List Int64} {n : Nat} {Q : Int32 → St → Prop} (hb1 : b1 < 4) (hb2 : b2 < 4) (hK : KR S l) (hn : l.length ≤ n) (hn2 : n ≤ 65536) (hQ : Q (nI (hmy (bq w1 b1 w2 b2) l l.length)) S) : pX3_howMany n w1 (nI b1) w2 (nI b2) S Q := by
  have loop : ∀ d i, i + d = l.length → itr (F := Int32 → Int32 → Int32 → Int32 → Int32 → Int32 → St → Prop) (fun _ _ _ _ _ _ _ => False) (fun k6 x1 x2 x3 x4 x5 x6 S => bX3_howMany_6 n k6 Q x1 x2 x3 x4 x5 x6 S) (d + 1) w1 (nI b1) w2 (nI b2) (nI (hmy (bq w1 b1 w2 b2) l i)) (nI i) S := by
    intro d
    induction d with
    | zero =>
      intro i hi
      have : i = l.length := by omega
      subst this
      exact ⟨fun _ => hQ, fun z => absurd (by rw [hK.1]; exact nI_le (by omega) (by omega)) z⟩
    | succ d ih =>
      intro i hi
      have hin : vp_in (nI i) n := nu_in (by omega) (by omega)
      have nx := ih (i + 1) (by omega)
      rw [hmy] at nx
      have p1 := ptN_lt (l.getD i 0) w1
      have p2 := ptN_lt (l.getD i 0) w2
      have e1 : nI (ptN (l.getD i 0) w1) = nI b1 ↔ ptN (l.getD i 0) w1 = b1 := nI_eq (by omega) (by omega)
      have e2 : nI (ptN (l.getD i 0) w2) = nI b2 ↔ ptN (l.getD i 0) w2 = b2 := nI_eq (by omega) (by omega)
      refine ⟨fun z => by rw [hK.1, nI_leI (by omega) (by omega)] at z; omega, fun _ => ⟨hin, ?_⟩⟩
      rw [nu_cl (by omega), hK.2.1 i (by omega)]
      refine c_part ⟨fun z => ?_, fun z => ⟨hin, c_part ⟨fun z2 => ?_, fun z2 y6 e6 => ?_⟩⟩⟩
      · intro y e
        have : bq w1 b1 w2 b2 (l.getD i 0) = false := by unfold bq; rw [decide_eq_false (fun q => z (e1.mpr q))]; rfl
        rw [this] at nx
        rw [e, nI_1]; exact nx
      · intro y e
        have : bq w1 b1 w2 b2 (l.getD i 0) = false := by unfold bq; rw [decide_eq_false (fun q => z2 (e2.mpr q)), Bool.and_false]
        rw [this] at nx
        rw [e, nI_1]; exact nx
      · intro y e
        have : bq w1 b1 w2 b2 (l.getD i 0) = true := by unfold bq; rw [decide_eq_true (e1.mp z), decide_eq_true (e2.mp z2)]; rfl
        rw [this] at nx
        rw [e, e6, nI_1, nI_1]; exact nx
  exact ⟨l.length + 1, loop l.length 0 (by omega)⟩
theorem m_count2 {w1 w2 : Int32} {b1 b2 : Nat} {T : St} {l : List Int64} {Q : Int32 → St → Prop} (hb1 : b1 < 4) (hb2 : b2 < 4) (hK : KM T l) (hn : l.length ≤ 40000) (hQ : Q (nI (hmy (bq w1 b1 w2 b2) l l.length)) T) : ∃ N : Nat, itr (F := Int32 → Int32 → Int32 → Int32 → Int32 → Int32 → St → Prop) (fun _ _ _ _ _ _ _ => False) (fun k35 x1 x2 x3 x4 x5 x6 S => bX7_both_35 k35 Q x1 x2 x3 x4 x5 x6 S) N w1 (nI b1) w2 (nI b2) (0 : Int32) (0 : Int32) T := by
  have loop : ∀ d i, i + d = l.length → itr (F := Int32 → Int32 → Int32 → Int32 → Int32 → Int32 → St → Prop) (fun _ _ _ _ _ _ _ => False) (fun k35 x1 x2 x3 x4 x5 x6 S => bX7_both_35 k35 Q x1 x2 x3 x4 x5 x6 S) (d + 1) w1 (nI b1) w2 (nI b2) (nI (hmy (bq w1 b1 w2 b2) l i)) (nI i) T := by
    intro d
    induction d with
    | zero =>
      intro i hi
      have : i = l.length := by omega
      subst this
      exact ⟨fun _ => hQ, fun z => absurd (by rw [hK.1]; exact nI_le (by omega) (by omega)) z⟩
    | succ d ih =>
      intro i hi
      have hin : vp_in (nI i) 40000 := nu_in (by omega) (by omega)
      have nx := ih (i + 1) (by omega)
      rw [hmy] at nx
      refine ⟨fun z => by rw [hK.1, nI_leI (by omega) (by omega)] at z; omega, fun _ => ⟨hin, ?_⟩⟩
      rw [nu_cl (by omega), hK.2.1 i (by omega)]
      refine m_has hb1 ⟨fun z => ?_, fun z => ⟨hin, m_has hb2 ⟨fun z2 => ?_, fun z2 => ?_⟩⟩⟩
      · intro y e
        have : bq w1 b1 w2 b2 (l.getD i 0) = false := by unfold bq; rw [(zI_0 _).mp z]; rfl
        rw [this] at nx
        rw [e, nI_1]; exact nx
      · intro y e
        have : bq w1 b1 w2 b2 (l.getD i 0) = false := by unfold bq; rw [(zI_0 _).mp z2, Bool.and_false]
        rw [this] at nx
        rw [e, nI_1]; exact nx
      · intro y e
        have : bq w1 b1 w2 b2 (l.getD i 0) = true := by unfold bq; rw [(zI_1 _).mp z, (zI_1 _).mp z2]; rfl
        rw [this] at nx
        rw [e, nI_1, nI_1]; exact nx
  exact ⟨l.length + 1, loop l.length 0 (by omega)⟩
theorem c_isPart {x : Int32} {Q : Int32 → Prop} (hT : (∃ a, x = nI a ∧ a < 19) → Q 1) (hF : (x < 0 ∨ nI 19 ≤ x) → Q 0) : pX6_isPart x Q := by
  refine ⟨fun z => ⟨zb_0, hF (Or.inl z)⟩, fun z => ⟨fun z2 => ⟨zb_0, hF (Or.inr z2)⟩, fun z2 => ⟨zb_1, hT ?_⟩⟩⟩
  rcases i_rng (x := x) (k := 19) (by decide) with (q | q) | q
  · exact absurd q z
  · exact absurd q z2
  · exact q
theorem c_isValue {x : Int32} {Q : Int32 → Prop} (hT : (∃ a, x = nI a ∧ a < 4) → Q 1) (hF : (x < 0 ∨ nI 4 ≤ x) → Q 0) : pX6_isValue x Q := by
  refine ⟨fun z => ⟨zb_0, hF (Or.inl z)⟩, fun z => ⟨fun z2 => ⟨zb_0, hF (Or.inr z2)⟩, fun z2 => ⟨zb_1, hT ?_⟩⟩⟩
  rcases i_rng (x := x) (k := 4) (by decide) with (q | q) | q
  · exact absurd q z
  · exact absurd q z2
  · exact q
/-- the same with the reference's words -/
theorem m_in0 {x : Int32} {k : Nat} {hi : Int32} {Q : Int32 → Prop} (hk : k + 1 < 2 ^ 31) (eh : hi = nI k) (hT : (∃ a, x = nI a ∧ a < k + 1) → Q 1) (hF : (x < 0 ∨ nI (k + 1) ≤ x) → Q 0) : pX7_in x (0 : Int32) hi Q := by
  subst eh
  refine m_in (fun a b => hT ?_) (fun q => hF ?_)
  · rcases i_rng (x := x) (k := k + 1) hk with (q | q) | q
    · exact absurd q a
    · rw [i_nle a hk] at q
      rw [i_nlt a (by omega)] at b
      omega
    · exact q
  · rcases q with q | q
    · exact Or.inl q
    · by_cases z : x < 0
      · exact Or.inl z
      · right
        rw [i_nle z hk]
        rw [i_nlt z (by omega)] at q
        omega
theorem i_no {x : Int32} {k : Nat} (hk : k < 2 ^ 31) (h1 : ∃ a, x = nI a ∧ a < k) (h2 : x < 0 ∨ nI k ≤ x) : False := by
  obtain ⟨a, e, ha⟩ := h1
  rw [e] at h2
  rcases h2 with q | q
  · exact nI_pos (by omega) q
  · rw [nI_leI hk (by omega)] at q; omega
theorem m_isAsking {x y : Int32} {Q : Int32 → Prop} (hT : (∃ a, x = nI a ∧ a < 19) → (∃ a, y = nI a ∧ a < 4) → Q 1) (hF : ((x < 0 ∨ nI 19 ≤ x) ∨ (y < 0 ∨ nI 4 ≤ y)) → Q 0) : pX7_isAsking x y Q := by
  refine m_in0 (k := 18) (by decide) rfl (fun hx => ⟨fun z => absurd z (by decide), fun _ => ?_⟩) (fun q => ⟨fun _ => ⟨zb_0, hF (Or.inl q)⟩, fun z => absurd rfl z⟩)
  exact m_in0 (k := 3) (by decide) rfl (fun hy => ⟨fun z => absurd z (by decide), fun _ => ⟨zb_1, hT hx hy⟩⟩) (fun q => ⟨fun _ => ⟨zb_0, hF (Or.inr q)⟩, fun z => absurd rfl z⟩)
theorem st_both {x1 x2 x3 x4 : Int32} (hA : OKA mo P L) : STEP mo P L fo (fun n S Q => pX6_both n x1 x2 x3 x4 S Q) (fun T Q => pX7_both x1 x2 x3 x4 T Q) := by
  obtain ⟨hb1, hb2, hb3⟩ := FN_b (mo := mo) hA.2.1
  have nz : ¬ ((1 : Int32) = 0) := by decide
  by_cases g : ((x1 < 0 ∨ nI 19 ≤ x1) ∨ (x2 < 0 ∨ nI 4 ≤ x2)) ∨ ((x3 < 0 ∨ nI 19 ≤ x3) ∨ (x4 < 0 ∨ nI 4 ≤ x4))
  · refine STEP_k hA (-2) (fun n S h Q hQ => ?_) (fun T h Q hQ => ?_)
    · refine c_isPart (fun q1 => ⟨fun z => absurd z nz, fun _ => c_isValue (fun q2 => ⟨fun z => absurd z nz, fun _ => c_isPart (fun q3 => ⟨fun z => absurd z nz, fun _ => c_isValue (fun q4 => ?_) (fun _ => ⟨fun y => absurd rfl y, fun _ => hQ⟩)⟩) (fun _ => ⟨fun _ => hQ, fun y => absurd rfl y⟩)⟩) (fun _ => ⟨fun _ => hQ, fun y => absurd rfl y⟩)⟩) (fun _ => ⟨fun _ => hQ, fun y => absurd rfl y⟩)
      exfalso
      rcases g with (g | g) | (g | g)
      · exact i_no (by decide) q1 g
      · exact i_no (by decide) q2 g
      · exact i_no (by decide) q3 g
      · exact i_no (by decide) q4 g
    · refine m_isAsking (fun q1 q2 => ⟨fun z => absurd z nz, fun _ => m_isAsking (fun q3 q4 => ?_) (fun _ => ⟨fun y => absurd rfl y, fun _ => hQ⟩)⟩) (fun _ => ⟨fun _ => hQ, fun y => absurd rfl y⟩)
      exfalso
      rcases g with (g | g) | (g | g)
      · exact i_no (by decide) q1 g
      · exact i_no (by decide) q2 g
      · exact i_no (by decide) q3 g
      · exact i_no (by decide) q4 g
  · have g1 : ¬ (x1 < 0 ∨ nI 19 ≤ x1) := fun q => g (Or.inl (Or.inl q))
    have g2 : ¬ (x2 < 0 ∨ nI 4 ≤ x2) := fun q => g (Or.inl (Or.inr q))
    have g3 : ¬ (x3 < 0 ∨ nI 19 ≤ x3) := fun q => g (Or.inr (Or.inl q))
    have g4 : ¬ (x4 < 0 ∨ nI 4 ≤ x4) := fun q => g (Or.inr (Or.inr q))
    obtain ⟨b1, e1, l1⟩ := (i_rng (x := x2) (k := 4) (by decide)).resolve_left g2
    obtain ⟨b2, e2, l2⟩ := (i_rng (x := x4) (k := 4) (by decide)).resolve_left g4
    cases fo with
    | false =>
      refine STEP_k hA (-1) (fun n S h Q hQ => ?_) (fun T h Q hQ => ?_)
      · exact c_isPart (fun q1 => ⟨fun z => absurd z nz, fun _ => c_isValue (fun q2 => ⟨fun z => absurd z nz, fun _ => c_isPart (fun q3 => ⟨fun z => absurd z nz, fun _ => c_isValue (fun q4 => ⟨fun _ => ⟨fun _ => hQ, fun z => absurd h.2.2.2.2.1 z⟩, fun y => absurd y nz⟩) (fun q => absurd q g4)⟩) (fun q => absurd q g3)⟩) (fun q => absurd q g2)⟩) (fun q => absurd q g1)
      · exact m_isAsking (fun q1 q2 => ⟨fun z => absurd z nz, fun _ => m_isAsking (fun q3 q4 => ⟨fun _ => ⟨fun z => absurd h.2.2.1 z, fun _ => hQ⟩, fun y => absurd y nz⟩) (fun q => absurd (Or.inr q) g)⟩) (fun q => absurd (Or.inl q) g)
    | true =>
      refine STEP_k hA (nI (hmy (bq x1 b1 x3 b2) (FN mo P L).1 (FN mo P L).1.length)) (fun n S h Q hQ => ?_) (fun T h Q hQ => ?_)
      · obtain ⟨h0, h1, h2, h3, h4, h5, h6⟩ := h
        obtain ⟨k1, k2, k3⟩ := h6 rfl
        refine c_isPart (fun q1 => ⟨fun z => absurd z nz, fun _ => c_isValue (fun q2 => ⟨fun z => absurd z nz, fun _ => c_isPart (fun q3 => ⟨fun z => absurd z nz, fun _ => c_isValue (fun q4 => ⟨fun _ => ⟨fun z => absurd z (by rw [h4]; exact nz), fun _ => ?_⟩, fun y => absurd y nz⟩) (fun q => absurd q g4)⟩) (fun q => absurd q g3)⟩) (fun q => absurd q g2)⟩) (fun q => absurd q g1)
        rw [e1, e2]
        exact c_howMany l1 l2 k1 k3 (IsC_b h5).2 hQ
      · obtain ⟨h0, h1, h2, h3⟩ := h
        obtain ⟨k1, k2⟩ := h3 rfl
        refine m_isAsking (fun q1 q2 => ⟨fun z => absurd z nz, fun _ => m_isAsking (fun q3 q4 => ⟨fun _ => ⟨fun _ => ?_, fun z => absurd z (by rw [h2]; exact nz)⟩, fun y => absurd y nz⟩) (fun q => absurd (Or.inr q) g)⟩) (fun q => absurd (Or.inl q) g)
        rw [e1, e2]
        exact m_count2 l1 l2 k1 (by omega) hQ
theorem st_with {x1 x2 : Int32} (hA : OKA mo P L) : STEP mo P L fo (fun n S Q => pX6_with n x1 x2 S Q) (fun T Q => pX7_with x1 x2 T Q) := st_both hA
theorem st_instruction {x1 x2 x3 : Int32} (hA : OKA mo P L) : STEP mo P L fo (fun _ S Q => pX6_instruction x1 x2 x3 S Q) (fun T Q => pX7_instruction x1 x2 x3 T Q) := by
  have nz : ¬ ((1 : Int32) = 0) := by decide
  have hL := hA.2.1.1
  have c4 : (4 : Int32) = nI 4 := rfl
  have c6 : (6 : Int32) = nI 6 := rfl
  -- none there
  have none : ∀ Q : Int32 → St → Prop, (∀ n S, XI mo P L fo n S → Q (-1) S → (x1 < 0 ∨ nI 4 ≤ x1) ∨ (∃ a, x1 = nI a ∧ a < 4 ∧ (x2 < 0 ∨ nI (L a) ≤ x2)) → pX6_instruction x1 x2 x3 S Q) ∧ (∀ T, MI mo P L fo T → Q (-1) T → (x1 < 0 ∨ nI 4 ≤ x1) ∨ (∃ a, x1 = nI a ∧ a < 4 ∧ (x2 < 0 ∨ nI (L a) ≤ x2)) → pX7_instruction x1 x2 x3 T Q) := by
    intro Q
    refine ⟨fun n S h hQ g => ?_, fun T h hQ g => ?_⟩
    · have out : bX4_has_27 (fun (r2 : Int32) (S1 : St) => ((¬ r2 = 0 → ((x3 < 0 → bX6_instruction_38 Q  S1) ∧ (¬ (x3 < 0) → (((6 : Int32) ≤ x3 → bX6_instruction_38 Q  S1) ∧ (¬ ((6 : Int32) ≤ x3) → pX4_row x1 x2 S1 (fun (i4 : Nat) (S3 : St) => (vp_in x3 6 ∧ bX6_instruction_40 Q (S3.2.1 i4 (Int32.toNatClampNeg x3)) S3))))))) ∧ (r2 = 0 → Q (-1 : Int32) S1))) S := ⟨zb_0, fun y => absurd rfl y, fun _ => hQ⟩
      refine ⟨fun _ => out, fun z => ⟨fun _ => out, fun z2 => ⟨fun _ => out, fun z3 => ?_⟩⟩⟩
      rcases g with (g | g) | ⟨a, ea, ha, g⟩
      · exact absurd g z
      · exact absurd g z2
      · have hla := hL a ha
        rw [ea, nu_cl (by omega), (h.2.1.1 a ha).1]
        refine ⟨nu_in ha (by decide), fun _ => by rw [ea] at out; exact out, fun z4 => ?_⟩
        rcases g with g | g
        · exact absurd g z3
        · exact absurd g z4
    · refine m_in0 (k := 3) (by decide) rfl (fun q => ⟨fun z => absurd z nz, fun _ => ?_⟩) (fun q => ⟨fun _ => hQ, fun y => absurd rfl y⟩)
      rcases g with g | ⟨a, ea, ha, g⟩
      · exact absurd (i_no (by decide) q g) id
      · have hla := hL a ha
        rw [ea, nu_cl (by omega), (h.2.1.1 a ha).1]
        refine ⟨nu_in ha (by decide), m_in (fun z z2 => ?_) (fun _ => ⟨fun y => absurd rfl y, fun _ => hQ⟩)⟩
        rcases g with g | g
        · exact absurd g z
        · obtain ⟨e, c⟩ := i_num z
          rw [i_nle z (by omega)] at g
          refine absurd (Int32.not_le.mp (fun w => ?_)) z2
          rw [e, m1_ge (by omega) (by omega)] at w
          omega
  by_cases g : (x1 < 0 ∨ nI 4 ≤ x1) ∨ (∃ a, x1 = nI a ∧ a < 4 ∧ (x2 < 0 ∨ nI (L a) ≤ x2))
  · exact STEP_k hA (-1) (fun n S h Q hQ => (none Q).1 n S h hQ g) (fun T h Q hQ => (none Q).2 T h hQ g)
  · have g1 : ¬ (x1 < 0 ∨ nI 4 ≤ x1) := fun q => g (Or.inl q)
    obtain ⟨a, ea, ha⟩ := (i_rng (x := x1) (k := 4) (by decide)).resolve_left g1
    have hla := hL a ha
    have g2 : ¬ (x2 < 0 ∨ nI (L a) ≤ x2) := fun q => g (Or.inr ⟨a, ea, ha, q⟩)
    obtain ⟨i, ei, hi⟩ := (i_rng (x := x2) (k := L a) (by omega)).resolve_left g2
    have yes : ∀ (n : Nat) (S : St) (Q : Int32 → St → Prop), XI mo P L fo n S → ((x3 < 0 → Q (-2) S) ∧ (¬ x3 < 0 → ((6 : Int32) ≤ x3 → Q (-2) S) ∧ (¬ (6 : Int32) ≤ x3 → pX4_row x1 x2 S (fun (i4 : Nat) (S3 : St) => (vp_in x3 6 ∧ bX6_instruction_40 Q (S3.2.1 i4 (Int32.toNatClampNeg x3)) S3))))) → pX6_instruction x1 x2 x3 S Q := by
      intro n S Q h hQ
      refine ⟨fun z => absurd (Or.inl z) g1, fun z => ⟨fun z2 => absurd (Or.inr z2) g1, fun z2 => ⟨fun z3 => absurd (Or.inl z3) g2, fun z3 => ?_⟩⟩⟩
      have e20 := (h.2.1.1 a ha).1
      have cl : x1.toNatClampNeg = a := by rw [ea, nu_cl (by omega)]
      rw [cl, e20]
      refine ⟨by rw [ea]; exact nu_in ha (by decide), fun z4 => absurd (Or.inr z4) g2, fun z4 => ⟨zb_1, fun _ => hQ, fun y => absurd y nz⟩⟩
    have yesM : ∀ (T : St) (Q : Int32 → St → Prop), MI mo P L fo T → pX7_in x3 (0 : Int32) (5 : Int32) (fun (r4 : Int32) => ((r4 = 0 → bX7_instruction_57 Q (-2 : Int32) T) ∧ (¬ (r4 = 0) → (vp_in ((((36 : Int32) * x1) + ((6 : Int32) * x2)) + x3) 144 ∧ bX7_instruction_57 Q (T.1 1 (Int32.toNatClampNeg ((((36 : Int32) * x1) + ((6 : Int32) * x2)) + x3))) T)))) → pX7_instruction x1 x2 x3 T Q := by
      intro T Q h hQ
      refine m_in0 (k := 3) (by decide) rfl (fun q => ⟨fun z => absurd z nz, fun _ => ?_⟩) (fun q => absurd q g1)
      have cl : x1.toNatClampNeg = a := by rw [ea, nu_cl (by omega)]
      rw [cl, (h.2.1.1 a ha).1]
      refine ⟨by rw [ea]; exact nu_in ha (by decide), m_in (fun _ _ => ⟨fun _ => hQ, fun y => absurd y nz⟩) (fun q => ?_)⟩
      exfalso
      rcases q with q | q
      · exact g2 (Or.inl q)
      · have := Int32.not_le.mpr q
        rw [ei, m1_ge (by omega) (by omega)] at this
        omega
    rcases i_rng (x := x3) (k := 6) (by decide) with g3 | ⟨k, ek, hk⟩
    · refine STEP_k hA (-2) (fun n S h Q hQ => yes n S Q h ⟨fun _ => hQ, fun z => ⟨fun _ => hQ, fun z2 => ?_⟩⟩) (fun T h Q hQ => yesM T Q h ?_)
      · rcases g3 with q | q
        · exact absurd q z
        · exact absurd q z2
      · exact m_in0 (k := 5) (by decide) rfl (fun q => absurd (i_no (by decide) q g3) id) (fun q => ⟨fun _ => hQ, fun y => absurd rfl y⟩)
    · have g3 : ¬ (x3 < 0 ∨ nI 6 ≤ x3) := fun q => i_no (by decide) ⟨k, ek, hk⟩ q
      refine STEP_k hA (dcK (P a i 0) k (P a i k)) (fun n S h Q hQ => yes n S Q h ⟨fun z => absurd (Or.inl z) g3, fun z => ⟨fun z2 => absurd (Or.inr z2) g3, fun z2 => ?_⟩⟩) (fun T h Q hQ => yesM T Q h ?_)
      · have ex : x1 * (6 : Int32) + x2 = nI (6 * a + i) := by rw [ea, ei, nu_6]
        refine ⟨by rw [ex]; exact nu_in (by omega) (by decide), fun i1 e1 => ⟨by rw [ek]; exact nu_in hk (by decide), ?_⟩⟩
        rw [ex, nu_cl (by omega)] at e1
        show Q (S.2.1 i1 x3.toNatClampNeg) S
        rw [e1, ek, nu_cl (by omega), (h.2.1.2.1 a ha i hi).2 k hk]; exact hQ
      · refine m_in0 (k := 5) (by decide) rfl (fun q => ⟨fun z => absurd z nz, fun _ => ?_⟩) (fun q => absurd q g3)
        have ex : ((36 : Int32) * x1 + (6 : Int32) * x2) + x3 = nI (36 * a + 6 * i + k) := by rw [ea, ei, ek, nu_36, nI_add]
        rw [ex, nu_cl (by omega)]
        refine ⟨nu_in (by omega) (by decide), ?_⟩
        show Q (T.1 1 (36 * a + 6 * i + k)) T
        rw [(h.2.1.2.1 a ha i hi).2 k hk]; exact hQ
theorem m_instructions {w : Nat} {q : Nat → Bool} {T : St} {Q : Int32 → St → Prop} (hw : (w = 0 ∧ q = tt) ∨ (w = 1 ∧ q = fun k => decide (k < 6)) ∨ (w = 2 ∧ q = rdK)) (hM : PM P L T) (hQ : Q (nI (cmR q P L 4)) T) : pX7_instructions (nI w) T Q := by
  have w3 : w < 3 := by omega
  have loop : ∀ d h, h + d = 4 → itr (F := Int32 → Int32 → Int32 → St → Prop) (fun _ _ _ _ => False) (fun k4 x1 x2 x3 S => bX7_instructions_4 k4 Q x1 x2 x3 S) (d + 1) (nI w) (nI (cmR q P L h)) (nI h) T := by
    intro d
    induction d with
    | zero =>
      intro h e
      have : h = 4 := by omega
      subst this
      exact ⟨fun _ => hQ, fun z => absurd (by decide) z⟩
    | succ d ih =>
      intro h e
      have hh : h < 4 := by omega
      obtain ⟨l1, l2⟩ := hM.1 h hh
      have hih : vp_in (nI h) 4 := nu_in hh (by decide)
      have ch : (nI h).toNatClampNeg = h := nu_cl (by omega)
      refine ⟨fun z => by rw [nu_4, nI_leI (by decide) (by omega)] at z; omega, fun _ => ⟨L h + 1, ?_⟩⟩
      have inner : ∀ c i, i + c = L h → itr (F := Int32 → Int32 → Int32 → Int32 → St → Prop) (fun _ _ _ _ _ => False) (fun k12 x1 x2 x3 x4 S => bX7_instructions_12 (itr (F := Int32 → Int32 → Int32 → St → Prop) (fun _ _ _ _ => False) (fun k4 x1 x2 x3 S => bX7_instructions_4 k4 Q x1 x2 x3 S) (d + 1)) k12 Q x1 x2 x3 x4 S) (c + 1) (nI w) (nI (cmR q P L h + cm q P h i)) (nI h) (nI i) T := by
        intro c
        induction c with
        | zero =>
          intro i ei
          have : i = L h := by omega
          subst this
          refine ⟨hih, ?_⟩
          rw [ch, l1]
          refine ⟨fun _ y6 e6 => ?_, fun z => absurd (nI_le (by omega) (by omega)) z⟩
          rw [e6, nI_1]
          exact ih (h + 1) (by omega)
        | succ c ihc =>
          intro i ei
          have hi : i < L h := by omega
          obtain ⟨hg, hr⟩ := hM.2.1 h hh i hi
          have k11 : P h i 0 < 11 := by rcases hg with ⟨q, -⟩ | ⟨q, -⟩ | ⟨q, -⟩ | ⟨q, -⟩ | ⟨q, -⟩ | ⟨q, -⟩ <;> omega
          have r0 : T.1 1 (36 * h + 6 * i) = nI (P h i 0) := by
            have := hr 0 (by decide)
            rw [Nat.add_zero] at this
            rw [this]
            unfold dcK
            rw [if_neg (fun q => yK_0 _ q.symm)]
          have nx := ihc (i + 1) (by omega)
          rw [show cmR q P L h + cm q P h (i + 1) = cmR q P L h + cm q P h i + b2n (q (P h i 0)) by rw [cm]; omega] at nx
          have yes : q (P h i 0) = true → bX7_instructions_69 (itr (F := Int32 → Int32 → Int32 → St → Prop) (fun _ _ _ _ => False) (fun k4 x1 x2 x3 S => bX7_instructions_4 k4 Q x1 x2 x3 S) (d + 1)) (itr (F := Int32 → Int32 → Int32 → Int32 → St → Prop) (fun _ _ _ _ _ => False) (fun k12 x1 x2 x3 x4 S => bX7_instructions_12 (itr (F := Int32 → Int32 → Int32 → St → Prop) (fun _ _ _ _ => False) (fun k4 x1 x2 x3 S => bX7_instructions_4 k4 Q x1 x2 x3 S) (d + 1)) k12 Q x1 x2 x3 x4 S) (c + 1)) Q (nI w) (nI (cmR q P L h + cm q P h i)) (nI h) (nI i) T := by
            intro hq y1 e1
            rw [hq] at nx
            rw [e1, nI_1, nI_1]; exact nx
          have no : q (P h i 0) = false → bX7_instructions_75 (itr (F := Int32 → Int32 → Int32 → St → Prop) (fun _ _ _ _ => False) (fun k4 x1 x2 x3 S => bX7_instructions_4 k4 Q x1 x2 x3 S) (d + 1)) (itr (F := Int32 → Int32 → Int32 → Int32 → St → Prop) (fun _ _ _ _ _ => False) (fun k12 x1 x2 x3 x4 S => bX7_instructions_12 (itr (F := Int32 → Int32 → Int32 → St → Prop) (fun _ _ _ _ => False) (fun k4 x1 x2 x3 S => bX7_instructions_4 k4 Q x1 x2 x3 S) (d + 1)) k12 Q x1 x2 x3 x4 S) (c + 1)) Q (nI w) (nI (cmR q P L h + cm q P h i)) (nI h) (nI i) T := by
            intro hq y1 e1
            rw [hq] at nx
            rw [e1, nI_1]; exact nx
          refine ⟨hih, ?_⟩
          rw [ch, l1]
          refine ⟨fun z => by rw [nI_leI (by omega) (by omega)] at z; omega, fun _ => ?_⟩
          rw [nu_36, nu_cl (by omega)]
          refine ⟨nu_in (by omega) (by decide), fun y8 e8 => ?_⟩
          rw [r0] at e8
          rw [e8]
          rcases hw with ⟨w0, hq⟩ | ⟨w1, hq⟩ | ⟨w2, hq⟩
          · subst w0
            exact ⟨fun _ => yes (by rw [hq]; rfl), fun z => absurd rfl z⟩
          · subst w1
            refine ⟨fun z => absurd z (by decide), fun _ => ⟨fun z => absurd rfl z, fun _ => ⟨fun z => yes ?_, fun z => ⟨fun _ => no ?_, fun z2 => absurd z2 (by decide)⟩⟩⟩⟩
            · rw [hq]
              rw [show (6 : Int32) = nI 6 from rfl, nI_ltI (by omega) (by decide)] at z
              exact decide_eq_true z
            · rw [hq]
              rw [show (6 : Int32) = nI 6 from rfl, nI_ltI (by omega) (by decide)] at z
              exact decide_eq_false z
          · subst w2
            refine ⟨fun z => absurd z (by decide), fun _ => ⟨fun _ => ⟨fun z => absurd rfl z, fun _ => ?_⟩, fun z => absurd z (by decide)⟩⟩
            refine m_isReading k11 ⟨fun z => no (by rw [hq]; exact (zI_0 _).mp z), fun z => yes (by rw [hq]; exact (zI_1 _).mp z)⟩
      exact inner (L h) 0 (by omega)
  exact ⟨5, loop 4 0 (by decide)⟩
theorem st_count {x1 : Int32} (hA : OKA mo P L) : STEP mo P L fo (fun _ S Q => pX6_count x1 S Q) (fun T Q => pX7_count x1 T Q) := by
  have nz : ¬ ((1 : Int32) = 0) := by decide
  have ti : ∀ a, a < 6 → (nI a).toInt = a := fun a ha => nI_toInt (by omega)
  by_cases hx : Int32.toInt x1 < 0 ∨ 5 < Int32.toInt x1
  · have ne : ∀ a, a < 6 → x1 ≠ nI a := fun a ha e => by rw [e, ti a ha] at hx; omega
    refine STEP_k hA (-2) (fun n S h Q hQ => ⟨fun _ => hQ, fun e => absurd e (ne 0 (by decide)), fun e => absurd e (ne 1 (by decide)), fun e => absurd e (ne 2 (by decide)), fun e => absurd e (ne 3 (by decide)), fun e => absurd e (ne 4 (by decide)), fun e => absurd e (ne 5 (by decide))⟩) (fun T h Q hQ => ⟨fun _ => hQ, fun e => absurd e (ne 0 (by decide)), fun e => absurd e (ne 1 (by decide)), fun e => absurd e (ne 2 (by decide)), fun e => absurd e (ne 3 (by decide)), fun e => absurd e (ne 4 (by decide)), fun e => absurd e (ne 5 (by decide))⟩)
  · obtain ⟨a, ea, ha⟩ : ∃ a, x1 = nI a ∧ a < 6 := by
      have h0 : ¬ x1 < 0 := fun q => hx (Or.inl (i_neg.mp q))
      obtain ⟨e, b⟩ := i_num h0
      refine ⟨x1.toNatClampNeg, e, ?_⟩
      rw [e, nI_toInt b] at hx
      omega
    have hx' : ¬ (Int32.toInt (nI a) < 0 ∨ 5 < Int32.toInt (nI a)) := by rw [← ea]; exact hx
    have ne : ∀ b, b < 6 → b ≠ a → nI a ≠ nI b := fun b hb hne e => hne ((nI_eq (by omega) (by omega)).mp e).symm
    subst ea
    rcases (show a = 0 ∨ a = 1 ∨ a = 2 ∨ a = 3 ∨ a = 4 ∨ a = 5 by omega) with rfl | rfl | rfl | rfl | rfl | rfl
    · refine STEP_k hA (nI (cmR tt P L 4)) (fun n S h Q hQ => ⟨fun z => absurd z hx', fun _ => c_size h.2.1 hQ, fun e => absurd e (ne 1 (by decide) (by decide)), fun e => absurd e (ne 2 (by decide) (by decide)), fun e => absurd e (ne 3 (by decide) (by decide)), fun e => absurd e (ne 4 (by decide) (by decide)), fun e => absurd e (ne 5 (by decide) (by decide))⟩) (fun T h Q hQ => ⟨fun z => absurd z hx', fun _ => m_instructions (Or.inl ⟨rfl, rfl⟩) h.2.1 hQ, fun e => absurd e (ne 1 (by decide) (by decide)), fun e => absurd e (ne 2 (by decide) (by decide)), fun e => absurd e (ne 3 (by decide) (by decide)), fun e => absurd e (ne 4 (by decide) (by decide)), fun e => absurd e (ne 5 (by decide) (by decide))⟩)
    · refine STEP_k hA (nI (cmR (fun k => decide (k < 6)) P L 4)) (fun n S h Q hQ => ⟨fun z => absurd z hx', fun e => absurd e (ne 0 (by decide) (by decide)), fun _ => ?_, fun e => absurd e (ne 2 (by decide) (by decide)), fun e => absurd e (ne 3 (by decide) (by decide)), fun e => absurd e (ne 4 (by decide) (by decide)), fun e => absurd e (ne 5 (by decide) (by decide))⟩) (fun T h Q hQ => ⟨fun z => absurd z hx', fun e => absurd e (ne 0 (by decide) (by decide)), fun _ => m_instructions (Or.inr (Or.inl ⟨rfl, rfl⟩)) h.2.1 hQ, fun e => absurd e (ne 2 (by decide) (by decide)), fun e => absurd e (ne 3 (by decide) (by decide)), fun e => absurd e (ne 4 (by decide) (by decide)), fun e => absurd e (ne 5 (by decide) (by decide))⟩)
      show Q (S.1 3 0) S
      rw [h.2.2.1]; exact hQ
    · refine STEP_k hA (nI (cmR rdK P L 4)) (fun n S h Q hQ => ⟨fun z => absurd z hx', fun e => absurd e (ne 0 (by decide) (by decide)), fun e => absurd e (ne 1 (by decide) (by decide)), fun _ => ?_, fun e => absurd e (ne 3 (by decide) (by decide)), fun e => absurd e (ne 4 (by decide) (by decide)), fun e => absurd e (ne 5 (by decide) (by decide))⟩) (fun T h Q hQ => ⟨fun z => absurd z hx', fun e => absurd e (ne 0 (by decide) (by decide)), fun e => absurd e (ne 1 (by decide) (by decide)), fun _ => m_instructions (Or.inr (Or.inr ⟨rfl, rfl⟩)) h.2.1 hQ, fun e => absurd e (ne 3 (by decide) (by decide)), fun e => absurd e (ne 4 (by decide) (by decide)), fun e => absurd e (ne 5 (by decide) (by decide))⟩)
      show Q (S.1 4 0) S
      rw [h.2.2.2.1]; exact hQ
    · cases fo with
      | false => refine STEP_k hA (-1) (fun n S h Q hQ => ⟨fun z => absurd z hx', fun e => absurd e (ne 0 (by decide) (by decide)), fun e => absurd e (ne 1 (by decide) (by decide)), fun e => absurd e (ne 2 (by decide) (by decide)), fun _ => ⟨fun _ => hQ, fun z => absurd h.2.2.2.2.1 z⟩, fun e => absurd e (ne 4 (by decide) (by decide)), fun e => absurd e (ne 5 (by decide) (by decide))⟩) (fun T h Q hQ => ⟨fun z => absurd z hx', fun e => absurd e (ne 0 (by decide) (by decide)), fun e => absurd e (ne 1 (by decide) (by decide)), fun e => absurd e (ne 2 (by decide) (by decide)), fun _ => ⟨fun _ => hQ, fun z => absurd h.2.2.1 z⟩, fun e => absurd e (ne 4 (by decide) (by decide)), fun e => absurd e (ne 5 (by decide) (by decide))⟩)
      | true =>
        refine STEP_k hA (nI (FN mo P L).1.length) (fun n S h Q hQ => ⟨fun z => absurd z hx', fun e => absurd e (ne 0 (by decide) (by decide)), fun e => absurd e (ne 1 (by decide) (by decide)), fun e => absurd e (ne 2 (by decide) (by decide)), fun _ => ⟨fun z => absurd z (by rw [h.2.2.2.2.1]; exact nz), fun _ => ?_⟩, fun e => absurd e (ne 4 (by decide) (by decide)), fun e => absurd e (ne 5 (by decide) (by decide))⟩) (fun T h Q hQ => ⟨fun z => absurd z hx', fun e => absurd e (ne 0 (by decide) (by decide)), fun e => absurd e (ne 1 (by decide) (by decide)), fun e => absurd e (ne 2 (by decide) (by decide)), fun _ => ⟨fun z => absurd z (by rw [h.2.2.1]; exact nz), fun _ => ?_⟩, fun e => absurd e (ne 4 (by decide) (by decide)), fun e => absurd e (ne 5 (by decide) (by decide))⟩)
        · show Q (S.1 17 0) S
          rw [(h.2.2.2.2.2.2 rfl).1.1]; exact hQ
        · show Q (T.1 5 0) T
          rw [(h.2.2.2 rfl).1.1]; exact hQ
    · refine STEP_k hA (nI mo) (fun n S h Q hQ => ⟨fun z => absurd z hx', fun e => absurd e (ne 0 (by decide) (by decide)), fun e => absurd e (ne 1 (by decide) (by decide)), fun e => absurd e (ne 2 (by decide) (by decide)), fun e => absurd e (ne 3 (by decide) (by decide)), fun _ => by rw [h.1]; exact hQ, fun e => absurd e (ne 5 (by decide) (by decide))⟩) (fun T h Q hQ => ⟨fun z => absurd z hx', fun e => absurd e (ne 0 (by decide) (by decide)), fun e => absurd e (ne 1 (by decide) (by decide)), fun e => absurd e (ne 2 (by decide) (by decide)), fun e => absurd e (ne 3 (by decide) (by decide)), fun _ => by rw [h.1]; exact hQ, fun e => absurd e (ne 5 (by decide) (by decide))⟩)
    · cases fo with
      | false => refine STEP_k hA (-1) (fun n S h Q hQ => ⟨fun z => absurd z hx', fun e => absurd e (ne 0 (by decide) (by decide)), fun e => absurd e (ne 1 (by decide) (by decide)), fun e => absurd e (ne 2 (by decide) (by decide)), fun e => absurd e (ne 3 (by decide) (by decide)), fun e => absurd e (ne 4 (by decide) (by decide)), fun _ => ⟨fun _ => hQ, fun z => absurd h.2.2.2.2.1 z⟩⟩) (fun T h Q hQ => ⟨fun z => absurd z hx', fun e => absurd e (ne 0 (by decide) (by decide)), fun e => absurd e (ne 1 (by decide) (by decide)), fun e => absurd e (ne 2 (by decide) (by decide)), fun e => absurd e (ne 3 (by decide) (by decide)), fun e => absurd e (ne 4 (by decide) (by decide)), fun _ => ⟨fun _ => hQ, fun z => absurd h.2.2.1 z⟩⟩)
      | true =>
        refine STEP_k hA (nI (FN mo P L).2) (fun n S h Q hQ => ⟨fun z => absurd z hx', fun e => absurd e (ne 0 (by decide) (by decide)), fun e => absurd e (ne 1 (by decide) (by decide)), fun e => absurd e (ne 2 (by decide) (by decide)), fun e => absurd e (ne 3 (by decide) (by decide)), fun e => absurd e (ne 4 (by decide) (by decide)), fun _ => ⟨fun z => absurd z (by rw [h.2.2.2.2.1]; exact nz), fun _ => ?_⟩⟩) (fun T h Q hQ => ⟨fun z => absurd z hx', fun e => absurd e (ne 0 (by decide) (by decide)), fun e => absurd e (ne 1 (by decide) (by decide)), fun e => absurd e (ne 2 (by decide) (by decide)), fun e => absurd e (ne 3 (by decide) (by decide)), fun e => absurd e (ne 4 (by decide) (by decide)), fun _ => ⟨fun z => absurd z (by rw [h.2.2.1]; exact nz), fun _ => ?_⟩⟩)
        · show Q (S.1 1 0) S
          rw [(h.2.2.2.2.2.2 rfl).2.1]; exact hQ
        · show Q (T.1 6 0) T
          rw [(h.2.2.2 rfl).2]; exact hQ
end ST2
