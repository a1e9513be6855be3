/-! an outcome's number -/
def hN (v : Nat → Nat) : Nat → Nat → Nat
  | 0, _ => 0
  | m + 1, r => hN v m (r + 1) * 4 + v r
theorem hN_top (v : Nat → Nat) : ∀ m r, hN v (m + 1) r = hN v m r + v (r + m) * 4 ^ m
  | 0, r => by simp [hN]
  | m + 1, r => by
    rw [hN, hN_top v m (r + 1), hN, show r + 1 + m = r + (m + 1) by omega, Nat.pow_succ, ← Nat.mul_assoc]
    omega
theorem hN_lt (v : Nat → Nat) : ∀ m r, (∀ k, r ≤ k → k < r + m → v k < 4) → hN v m r < 4 ^ m
  | 0, r, _ => by simp [hN]
  | m + 1, r, h => by
    have h1 := hN_lt v m (r + 1) (fun k a b => h k (by omega) (by omega))
    have h2 := h r (by omega) (by omega)
    rw [hN, Nat.pow_succ]
    omega
theorem hN_c {v w : Nat → Nat} : ∀ m r, (∀ k, r ≤ k → k < r + m → v k = w k) → hN v m r = hN w m r
  | 0, r, _ => rfl
  | m + 1, r, h => by
    rw [hN, hN, hN_c m (r + 1) (fun k a b => h k (by omega) (by omega)), h r (by omega) (by omega)]
def outX (v w : Nat → Nat) : Int64 := lN (hN v 16 0 + hN w 3 0 * 2 ^ 32)
theorem lo_shl (n : Nat) {k : Nat} (hk : k < 64) : lN n <<< ((nI k).toInt64 &&& 63) = lN (n * 2 ^ k) := by
  have e1 : ∀ k, k < 64 → ((nI k).toInt64 &&& 63) = lN k := by decide +kernel
  have e2 : ∀ k, k < 64 → (BitVec.ofNat 64 k).smod 64 = BitVec.ofNat 64 k := by decide +kernel
  have tb : ∀ n, (lN n).toBitVec = BitVec.ofNat 64 n := fun _ => rfl
  rw [e1 k hk]
  apply Int64.toBitVec_inj.mp
  rw [Int64.toBitVec_shiftLeft, tb, tb, tb, e2 k hk]
  apply BitVec.eq_of_toNat_eq
  rw [BitVec.shiftLeft_eq', BitVec.toNat_shiftLeft, BitVec.toNat_ofNat, BitVec.toNat_ofNat, BitVec.toNat_ofNat, Nat.mod_eq_of_lt (show k < 2 ^ 64 by omega), Nat.shiftLeft_eq, Nat.mul_mod, Nat.mod_mod, ← Nat.mul_mod]
theorem lo_or {a b k : Nat} (ha : a < 2 ^ k) (h : a + b * 2 ^ k < 2 ^ 64) : lN a ||| lN (b * 2 ^ k) = lN (a + b * 2 ^ k) := by
  have tb : ∀ n, (lN n).toBitVec = BitVec.ofNat 64 n := fun _ => rfl
  have e : a ||| b * 2 ^ k = a + b * 2 ^ k := by
    rw [Nat.or_comm, Nat.add_comm, ← Nat.shiftLeft_eq, Nat.shiftLeft_add_eq_or_of_lt ha]
  apply Int64.toBitVec_inj.mp
  rw [Int64.toBitVec_or, tb, tb, tb]
  apply BitVec.eq_of_toNat_eq
  rw [BitVec.toNat_or, BitVec.toNat_ofNat, BitVec.toNat_ofNat, BitVec.toNat_ofNat, Nat.mod_eq_of_lt (show a < 2 ^ 64 by omega), Nat.mod_eq_of_lt (show b * 2 ^ k < 2 ^ 64 by omega), Nat.mod_eq_of_lt h, e]
theorem nu_neg {n : Nat} (h : n < 2 ^ 31) : nI n - 1 < 0 ↔ n = 0 := by
  constructor
  · intro q
    rcases Nat.eq_zero_or_pos n with z | z
    · exact z
    · rw [nu_pred z] at q; exact absurd q (nI_pos (by omega))
  · intro q; subst q; decide
theorem nu_nng {n : Nat} (h : n < 2 ^ 31) : 0 ≤ nI n - 1 ↔ n ≠ 0 := by
  constructor
  · intro q z; subst z; revert q; decide
  · intro z; rw [nu_pred (by omega)]; exact nI_pos' (by omega)
theorem c_regs {S : St} {v : Nat → Nat} {Q : Int64 → St → Prop} (h : ∀ k, k < 16 → S.1 24 k = nI (v k) ∧ v k < 4) (hQ : Q (lN (hN v 16 0)) S) : pX5_registersPart S Q := by
  have loop : ∀ d m, d + m = 16 → itr (F := Int64 → Int32 → St → Prop) (fun _ _ _ => False) (fun k5 x1 x3 S => bX5_registersPart_5 k5 Q x1 x3 S) (d + 1) (lN (hN v m d)) (nI d - 1) S := by
    intro d
    induction d with
    | zero =>
      intro m hm
      have : m = 16 := by omega
      subst this
      exact ⟨fun _ => hQ, fun z => absurd ((nu_neg (by decide)).mpr rfl) z⟩
    | succ d ih =>
      intro m hm
      rw [nI_pred]
      refine ⟨fun z => absurd z (nI_pos (by omega)), fun _ => ⟨nu_in (by omega) (by decide), fun y2 e2 y3 e3 => ?_⟩⟩
      obtain ⟨a, b⟩ := h d (by omega)
      rw [nu_cl (by omega), a, nI_l (by omega), show (4 : Int64) = lN 4 from rfl, lN_mul, lN_add] at e2
      rw [e3, nu_a1, e2]
      exact ih (m + 1) (by omega)
  exact ⟨17, loop 16 0 (by decide)⟩
theorem c_locs {S : St} {w : Nat → Nat} {lt : Nat → Nat} {Q : Int64 → St → Prop} (h1 : ∀ x, x < 3 → S.1 28 x = nI (lt x) - 1 ∧ lt x ≤ 6) (h2 : ∀ x, x < 3 → lt x ≠ 0 → S.1 37 (lt x - 1) = nI (w x) ∧ w x < 4) (h3 : ∀ x, x < 3 → lt x = 0 → w x = 0) (hQ : Q (lN (hN w 3 0 * 2 ^ 32)) S) : pX5_locationsPart S Q := by
  have loop : ∀ d m, d + m = 3 → itr (F := Int64 → Int32 → St → Prop) (fun _ _ _ => False) (fun k5 x2 x4 S => bX5_locationsPart_5 k5 Q x2 x4 S) (d + 1) (lN (hN w m d)) (nI d - 1) S := by
    intro d
    induction d with
    | zero =>
      intro m hm
      have : m = 3 := by omega
      subst this
      refine ⟨fun _ => ?_, fun z => absurd ((nu_neg (by decide)).mpr rfl) z⟩
      rw [show (32 : Int32) = nI 32 from rfl, lo_shl _ (by decide)]
      exact hQ
    | succ d ih =>
      intro m hm
      rw [nI_pred]
      have k39 : ∀ t1 : Int32, t1 = nI (w d) → w d < 4 → bX5_locationsPart_39 (itr (F := Int64 → Int32 → St → Prop) (fun _ _ _ => False) (fun k5 x2 x4 S => bX5_locationsPart_5 k5 Q x2 x4 S) (d + 1)) Q (nI d) (lN (hN w m (d + 1)) * 4) t1 S := by
        intro t1 et hw y1 e1 y2 e2
        rw [et, nI_l (by omega), show (4 : Int64) = lN 4 from rfl, lN_mul, lN_add] at e1
        rw [e2, nu_a1, e1]
        exact ih (m + 1) (by omega)
      obtain ⟨a, b⟩ := h1 d (by omega)
      have hd : vp_in (nI d) 3 := nu_in (by omega) (by decide)
      refine ⟨fun z => absurd z (nI_pos (by omega)), fun _ => ⟨hd, ?_⟩⟩
      rw [nu_cl (by omega), a]
      refine ⟨fun z => ?_, fun z => ?_⟩
      · have hne : lt d ≠ 0 := fun q => z ((nu_m1 (by omega)).mpr q)
        obtain ⟨c, e⟩ := h2 d (by omega) hne
        rw [nu_pred (by omega)]
        refine ⟨hd, nu_in (by omega) (by decide), fun i5 e5 => ?_⟩
        rw [nu_cl (by omega)] at e5
        subst e5
        exact k39 _ c e
      · have h0 := (nu_m1 (by omega)).mp z
        have := h3 d (by omega) h0
        exact k39 _ (by rw [this]; rfl) (by omega)
  exact ⟨4, loop 3 0 (by decide)⟩
section MRK
variable {mo : Nat} {σ : AW} {p : Nat → Nat} {T : St}
theorem m_writes {i : Nat} {Q : Int32 → St → Prop} (hW : WS mo σ) (hi : i < σ 7 0) (hF : ∀ i, i < σ 7 0 → MF σ T i) (hQ : Q (zI (wtK (σ 31 i))) T) : pX7_writes (nI i) T Q := by
  have h6 := hW.1.1
  have hk := (hW.1.2.2.2 i hi).2.1
  refine ⟨nu_in (by omega) (by decide), ?_⟩
  rw [nu_cl (by omega), (hF i hi).2.1]
  exact m_isWriting (by omega) ⟨zI_z _, hQ⟩
theorem m_reads {i : Nat} {Q : Int32 → St → Prop} (hW : WS mo σ) (hi : i < σ 7 0) (hF : ∀ i, i < σ 7 0 → MF σ T i) (hQ : Q (zI (rdK (σ 31 i))) T) : pX7_reads (nI i) T Q := by
  have h6 := hW.1.1
  have hk := (hW.1.2.2.2 i hi).2.1
  refine ⟨nu_in (by omega) (by decide), ?_⟩
  rw [nu_cl (by omega), (hF i hi).2.1]
  exact m_isReading (by omega) ⟨zI_z _, hQ⟩
theorem zI_1 (b : Bool) : ¬ zI b = 0 ↔ b = true := by cases b <;> decide
theorem pw42 (k : Nat) : 2 ^ (2 * k) = 4 ^ k := by rw [Nat.pow_mul]
theorem ltOf_i {d x : Nat} (h : ltOf σ p d x ≠ 0) : ltOf σ p d x - 1 < σ 7 0 ∧ ltOf σ p d x ≤ σ 7 0 := by
  obtain ⟨f1, -⟩ := amx_s _ h
  unfold ltOf at h ⊢
  omega
theorem m_reckon {Q : Int64 → St → Prop} (hW : WS mo σ) (hC : CO σ p) (h13 : T.1 13 0 = nI (σ 7 0)) (hF : ∀ i, i < σ 7 0 → MF σ T i) (hr : ∀ k, k < 16 → T.1 11 k = nI (σ 24 k)) (hp : ∀ i, i < σ 7 0 → T.1 31 i = nI (p i)) (hQ : Q (outX (σ 24) (fun x => vl σ (ltOf σ p (σ 7 0) x))) T) : pX7_reckon T Q := by
  have h6 := hW.1.1
  have hv : ∀ k, k < 16 → σ 24 k < 4 := fun k hk => (hW.1.2.2.1 k hk).1
  obtain ⟨w', ew⟩ : ∃ w' : Nat → Nat, w' = fun x => vl σ (ltOf σ p (σ 7 0) x) := ⟨_, rfl⟩
  rw [← ew] at hQ
  have ewx : ∀ x, w' x = vl σ (ltOf σ p (σ 7 0) x) := fun x => by rw [ew]
  have hw : ∀ x, w' x < 4 := by
    intro x
    rw [ewx]
    unfold vl
    split
    · decide
    · rename_i z; exact (hW.1.2.2.2 _ (ltOf_i z).1).2.2.2.2.2.1
  have hH := hN_lt (σ 24) 16 0 (fun k _ hk => hv k (by omega))
  have h416 : (4 : Nat) ^ 16 = 2 ^ 32 := by decide
  have inner : ∀ (k32 : Int64 → Int32 → St → Prop) (x : Nat), x < 3 → k32 (lN (hN (σ 24) 16 0 + hN w' (x + 1) 0 * 2 ^ 32)) (nI (x + 1)) T → ∀ (d w : Nat), w + d = σ 7 0 →
      itr (F := Int64 → Int32 → Int32 → Int32 → St → Prop) (fun _ _ _ _ _ => False) (fun k43 x1 x3 x4 x5 S => bX7_reckon_43 k32 k43 Q x1 x3 x4 x5 S) (d + 1) (lN (hN (σ 24) 16 0 + hN w' x 0 * 2 ^ 32)) (nI x) (nI (amx (ltQ σ p (σ 7 0) x) p w) - 1) (nI w) T := by
    intro k32 x hx hk d
    have hwx := hN_lt w' x 0 (fun k _ _ => hw k)
    have hwt := hw x
    have k126 : ∀ t1 : Int32, t1 = nI (w' x) → bX7_reckon_126 k32 Q (nI x) (lN (hN (σ 24) 16 0 + hN w' x 0 * 2 ^ 32)) t1 T := by
      intro t1 et y1 e1 y2 e2
      rw [et, nI_l (by omega), show (32 : Int32) = nI 32 from rfl, show (2 : Int32) = nI 2 from rfl, pk_mul, nI_add, lo_shl _ (by omega)] at e1
      have a1 : hN (σ 24) 16 0 + hN w' x 0 * 2 ^ 32 < 2 ^ (32 + 2 * x) := by
        rw [Nat.pow_add, pw42, Nat.mul_comm (2 ^ 32)]
        have : (hN w' x 0 + 1) * 2 ^ 32 ≤ 4 ^ x * 2 ^ 32 := Nat.mul_le_mul_right _ hwx
        omega
      have a2 : w' x * 2 ^ (32 + 2 * x) ≤ 3 * 2 ^ (32 + 2 * x) := Nat.mul_le_mul_right _ (by omega)
      have a3 : 2 ^ (32 + 2 * x) ≤ 2 ^ 36 := Nat.pow_le_pow_right (by decide) (by omega)
      rw [lo_or a1 (by omega)] at e1
      rw [e1, e2, nI_1]
      rw [hN_top w' x 0, Nat.zero_add] at hk
      have e3 : hN (σ 24) 16 0 + hN w' x 0 * 2 ^ 32 + w' x * 2 ^ (32 + 2 * x) = hN (σ 24) 16 0 + (hN w' x 0 + w' x * 4 ^ x) * 2 ^ 32 := by
        rw [Nat.pow_add, pw42, Nat.add_mul, Nat.mul_assoc, Nat.mul_comm (2 ^ 32)]; omega
      rw [e3]
      exact hk
    induction d with
    | zero =>
      intro w hw0
      have : w = σ 7 0 := by omega
      subst this
      refine ⟨fun _ => ?_, fun z => absurd (by rw [h13]; exact nI_le (Nat.le_refl _) (by omega)) z⟩
      have el : amx (ltQ σ p (σ 7 0) x) p (σ 7 0) = ltOf σ p (σ 7 0) x := rfl
      rw [el]
      have hle : ltOf σ p (σ 7 0) x ≤ 6 := by
        by_cases z : ltOf σ p (σ 7 0) x = 0
        · omega
        · have := (ltOf_i z).2; omega
      refine ⟨fun z => ?_, fun z => ?_⟩
      · have hne := (nu_nng (by omega)).mp z
        have hlt := (ltOf_i hne).1
        rw [nu_pred (by omega), nu_cl (by omega)]
        refine ⟨nu_in (by omega) (by decide), k126 _ ?_⟩
        rw [(hF _ hlt).2.2.2.2.1]
        rw [ewx]; unfold vl; rw [if_neg hne]
      · have h0 : ltOf σ p (σ 7 0) x = 0 := by
          by_cases q : ltOf σ p (σ 7 0) x = 0
          · exact q
          · exact absurd ((nu_nng (by omega)).mpr q) z
        refine k126 _ ?_
        rw [ewx, h0]; rfl
    | succ d ih =>
      intro w hw0
      have hwn : w < σ 7 0 := by omega
      have am : amx (ltQ σ p (σ 7 0) x) p w ≤ 6 := by
        by_cases z : amx (ltQ σ p (σ 7 0) x) p w = 0
        · omega
        · have := (amx_s _ z).1; omega
      have yes : (ltQ σ p (σ 7 0) x w = true ∧ (amx (ltQ σ p (σ 7 0) x) p w = 0 ∨ p (amx (ltQ σ p (σ 7 0) x) p w - 1) < p w)) → bX7_reckon_94 k32 (itr (F := Int64 → Int32 → Int32 → Int32 → St → Prop) (fun _ _ _ _ _ => False) (fun k43 x1 x3 x4 x5 S => bX7_reckon_43 k32 k43 Q x1 x3 x4 x5 S) (d + 1)) Q (lN (hN (σ 24) 16 0 + hN w' x 0 * 2 ^ 32)) (nI x) (nI w) T := by
        intro c y3 e3
        have := ih (w + 1) (by omega)
        rw [amx, if_pos c, nI_pred] at this
        rw [e3, nI_1]; exact this
      have no : ¬ (ltQ σ p (σ 7 0) x w = true ∧ (amx (ltQ σ p (σ 7 0) x) p w = 0 ∨ p (amx (ltQ σ p (σ 7 0) x) p w - 1) < p w)) → bX7_reckon_99 k32 (itr (F := Int64 → Int32 → Int32 → Int32 → St → Prop) (fun _ _ _ _ _ => False) (fun k43 x1 x3 x4 x5 S => bX7_reckon_43 k32 k43 Q x1 x3 x4 x5 S) (d + 1)) Q (lN (hN (σ 24) 16 0 + hN w' x 0 * 2 ^ 32)) (nI x) (nI (amx (ltQ σ p (σ 7 0) x) p w) - 1) (nI w) T := by
        intro c y3 e3
        have := ih (w + 1) (by omega)
        rw [amx, if_neg c] at this
        rw [e3, nI_1]; exact this
      refine ⟨fun z => by rw [h13, nI_leI (by omega) (by omega)] at z; omega, fun _ => ?_⟩
      have hwi : vp_in (nI w) 6 := nu_in (by omega) (by decide)
      refine m_writes hW hwn hF ⟨fun z => no (fun c => ?_), fun z => ?_⟩
      · have := (ltQ_t.mp c.1).1
        rw [this] at z; exact absurd z (by decide)
      · have hwt2 := (zI_1 _).mp z
        rw [nu_cl (by omega), (hF w hwn).2.2.1]
        have hl3 := (hW.1.2.2.2 w hwn).2.2.1
        have el : nI (σ 32 w) = nI x ↔ σ 32 w = x := nI_eq (by omega) (by omega)
        refine ⟨hwi, fun z2 => no (fun c => z2 (el.mpr (ltQ_t.mp c.1).2.1)), fun z2 => ?_⟩
        have hq : ltQ σ p (σ 7 0) x w = true := ltQ_t.mpr ⟨hwt2, el.mp z2, hC.1 w hwn⟩
        refine ⟨fun z3 => yes ⟨hq, Or.inl ((nu_neg (by omega)).mp z3)⟩, fun z3 => ?_⟩
        have hne : amx (ltQ σ p (σ 7 0) x) p w ≠ 0 := fun q => z3 ((nu_neg (by omega)).mpr q)
        have ham := (amx_s _ hne).1
        have pb1 := hC.1 w hwn
        have pb2 := hC.1 (amx (ltQ σ p (σ 7 0) x) p w - 1) (by omega)
        rw [nu_pred (by omega), nu_cl (by omega), hp w hwn, hp _ (by omega)]
        have ec : nI (p w) ≤ nI (p (amx (ltQ σ p (σ 7 0) x) p w - 1)) ↔ p w ≤ p (amx (ltQ σ p (σ 7 0) x) p w - 1) := nI_leI (by omega) (by omega)
        refine ⟨hwi, nu_in (by omega) (by decide), fun z4 => ?_, fun z4 => yes ⟨hq, Or.inr ?_⟩⟩
        · have := no (fun c => by
            have := ec.mp z4
            rcases c.2 with q | q
            · exact hne q
            · omega)
          rw [nu_pred (by omega)] at this
          exact this
        · rcases Nat.lt_or_ge (p (amx (ltQ σ p (σ 7 0) x) p w - 1)) (p w) with q | q
          · exact q
          · exact absurd (ec.mpr q) z4
  have loop2 : ∀ d x, x + d = 3 → itr (F := Int64 → Int32 → St → Prop) (fun _ _ _ => False) (fun k32 x1 x3 S => bX7_reckon_32 k32 Q x1 x3 S) (d + 1) (lN (hN (σ 24) 16 0 + hN w' x 0 * 2 ^ 32)) (nI x) T := by
    intro d
    induction d with
    | zero =>
      intro x hx
      have : x = 3 := by omega
      subst this
      exact ⟨fun _ => hQ, fun z => absurd (nI_le (a := 3) (b := 3) (by omega) (by omega)) z⟩
    | succ d ih =>
      intro x hx
      refine ⟨fun z => absurd ((nI_leI (a := 3) (by decide) (by omega)).mp z) (by omega), fun _ => ⟨σ 7 0 + 1, ?_⟩⟩
      exact inner _ x (by omega) (ih (x + 1) (by omega)) (σ 7 0) 0 (by omega)
  have loop1 : ∀ d k, k + d = 16 → itr (F := Int64 → Int32 → St → Prop) (fun _ _ _ => False) (fun k4 x1 x3 S => bX7_reckon_4 k4 Q x1 x3 S) (d + 1) (lN (hN (σ 24) k 0)) (nI k) T := by
    intro d
    induction d with
    | zero =>
      intro k hk
      have : k = 16 := by omega
      subst this
      refine ⟨fun _ => ⟨4, ?_⟩, fun z => absurd (nI_le (a := 16) (b := 16) (by omega) (by omega)) z⟩
      have := loop2 3 0 (by omega)
      rw [show hN w' 0 0 = 0 from rfl, Nat.zero_mul, Nat.add_zero] at this
      exact this
    | succ d ih =>
      intro k hk
      refine ⟨fun z => absurd ((nI_leI (a := 16) (by decide) (by omega)).mp z) (by omega), fun _ => ⟨nu_in (by omega) (by decide), fun y18 e18 y19 e19 => ?_⟩⟩
      have hvk := hv k (by omega)
      have hlt := hN_lt (σ 24) k 0 (fun j _ hj => hv j (by omega))
      rw [nu_cl (by omega), hr k (by omega), nI_l (by omega), show (2 : Int32) = nI 2 from rfl, pk_mul, lo_shl _ (by omega)] at e18
      have a3 : 2 ^ (2 * k) ≤ 2 ^ 30 := Nat.pow_le_pow_right (by decide) (by omega)
      have a2 : σ 24 k * 2 ^ (2 * k) ≤ 3 * 2 ^ (2 * k) := Nat.mul_le_mul_right _ (by omega)
      rw [lo_or (by rw [pw42]; exact hlt) (by rw [pw42] at a2 a3 ⊢; omega)] at e18
      have := ih (k + 1) (by omega)
      rw [hN_top (σ 24) k 0, Nat.zero_add, ← pw42] at this
      rw [e18, e19, nI_1]
      exact this
  exact ⟨17, loop1 16 0 (by omega)⟩
end MRK
