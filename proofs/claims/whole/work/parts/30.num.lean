/-! numbers: what the bytecode's arithmetic says of small naturals -/
theorem nu_4 : (4 : Int32) = nI 4 := rfl
theorem nu_ix {h r : Nat} : nI h * (4 : Int32) + nI r = nI (4 * h + r) := by
  rw [nu_4, pk_mul, nI_add, Nat.mul_comm]
theorem nu_m4 {a : Nat} (ha : a < 2 ^ 31) : nI a - nI a / (4 : Int32) * (4 : Int32) = nI (a % 4) := by
  rw [nu_4]; exact pk_rem ha (by decide) (by decide)
theorem nu_m3 {a : Nat} (ha : a < 2 ^ 31) : nI a - nI a / (3 : Int32) * (3 : Int32) = nI (a % 3) := by
  rw [show (3 : Int32) = nI 3 from rfl]; exact pk_rem ha (by decide) (by decide)
theorem nu_eqL {a k : Nat} {x : Int32} (hx : x = nI k) (ha : a < 2 ^ 31) (hk : k < 2 ^ 31) : nI a = x ↔ a = k := by
  rw [hx]; exact nI_eq ha hk
theorem nu_e0 {a : Nat} (ha : a < 2 ^ 31) : nI a = 0 ↔ a = 0 := nu_eqL (k := 0) rfl ha (by decide)
theorem nu_ne1 {a : Nat} (ha : a < 2 ^ 31) : ¬ nI a = (-1 : Int32) := by
  intro h
  have h2 := congrArg Int32.toInt h
  rw [nI_toInt ha] at h2
  have : (-1 : Int32).toInt = -1 := by decide
  omega
theorem nu_pred {a : Nat} (h : 0 < a) : nI a - 1 = nI (a - 1) := by
  obtain ⟨b, rfl⟩ : ∃ b, a = b + 1 := ⟨a - 1, by omega⟩
  rw [nI_pred]; rfl
theorem nu_p1 {a : Nat} : nI a - 1 = (-1 : Int32) ↔ nI a = 0 := by
  constructor
  · intro h
    have h2 := congrArg (fun z : Int32 => z + 1) h
    simpa using h2
  · intro h
    rw [h]; rfl
theorem nu_m1 {a : Nat} (ha : a < 2 ^ 31) : nI a - 1 = (-1 : Int32) ↔ a = 0 := nu_p1.trans (nu_e0 ha)
theorem nu_in {a N : Nat} (h : a < N) (hN : N < 2 ^ 31) : vp_in (nI a) N := vp_in_nI h hN
theorem nu_cl {a : Nat} (ha : a < 2 ^ 31) : (nI a).toNatClampNeg = a := nI_clamp ha
theorem nu_bit : ∀ A, A < 64 → ∀ i, i < 6 → (((nI A >>> (nI i &&& 31)) &&& (1 : Int32)) = 0 ↔ A.testBit i = false) := by decide +kernel
theorem nu_sh : ∀ i, i < 6 → (1 : Int32) <<< (nI i &&& 31) = nI (2 ^ i) := by decide +kernel
theorem nu_or (a b : Nat) : nI a ||| nI b = nI (a ||| b) := by
  apply Int32.toBitVec_inj.mp
  apply BitVec.eq_of_toNat_eq
  simp [nI, Nat.or_mod_two_pow]
theorem nu_and (a b : Nat) : nI a &&& nI b = nI (a &&& b) := by
  apply Int32.toBitVec_inj.mp
  apply BitVec.eq_of_toNat_eq
  simp [nI, Nat.and_mod_two_pow]
theorem nu_xor (a b : Nat) : nI a ^^^ nI b = nI (a ^^^ b) := by
  apply Int32.toBitVec_inj.mp
  apply BitVec.eq_of_toNat_eq
  simp [nI, Nat.xor_mod_two_pow]
theorem nu_or64 : ∀ a, a < 64 → ∀ b, b < 64 → a ||| b < 64 := fun a ha b hb => Nat.or_lt_two_pow (n := 6) ha hb
theorem nu_tb {a : Nat} (h : a < 64) {i : Nat} (hi : 6 ≤ i) : a.testBit i = false := Nat.testBit_lt_two_pow (Nat.lt_of_lt_of_le h (show 2 ^ 6 ≤ 2 ^ i from Nat.pow_le_pow_right (by decide) hi))
theorem nu_ext {a b : Nat} (ha : a < 64) (hb : b < 64) (h : ∀ i, i < 6 → a.testBit i = b.testBit i) : a = b := by
  apply Nat.eq_of_testBit_eq
  intro i
  by_cases hi : i < 6
  · exact h i hi
  · rw [nu_tb ha (by omega), nu_tb hb (by omega)]
/-- the bits below m that p has, from lo on -/
def msk (p : Nat → Bool) (lo : Nat) : Nat → Nat
  | 0 => 0
  | m + 1 => msk p lo m ||| (if lo ≤ m ∧ p m = true then 2 ^ m else 0)
theorem msk_lt (p : Nat → Bool) (lo : Nat) : ∀ m, msk p lo m < 2 ^ m
  | 0 => by simp [msk]
  | m + 1 => by
    rw [msk]
    apply Nat.or_lt_two_pow
    · exact Nat.lt_trans (msk_lt p lo m) (Nat.pow_lt_pow_right (by decide) (by omega))
    · split
      · exact Nat.pow_lt_pow_right (by decide) (by omega)
      · exact Nat.two_pow_pos _
theorem msk_bit (p : Nat → Bool) (lo : Nat) : ∀ m a, (msk p lo m).testBit a = decide (lo ≤ a ∧ a < m ∧ p a = true)
  | 0, a => by simp [msk]
  | m + 1, a => by
    rw [msk, Nat.testBit_or, msk_bit p lo m a]
    by_cases hc : lo ≤ m ∧ p m = true
    · rw [if_pos hc, Nat.testBit_two_pow]
      by_cases e : m = a
      · subst e; simp [hc.1, hc.2]
      · have e2 : decide (a < m) = decide (a < m + 1) := by
          congr 1; apply propext; omega
        simp [e, e2]
    · rw [if_neg hc]
      simp only [Nat.zero_testBit, Bool.or_false]
      congr 1
      apply propext
      constructor
      · rintro ⟨h1, h2, h3⟩; exact ⟨h1, by omega, h3⟩
      · rintro ⟨h1, h2, h3⟩
        refine ⟨h1, ?_, h3⟩
        rcases Nat.lt_or_ge a m with h | h
        · exact h
        · have : a = m := by omega
          subst this; exact absurd ⟨h1, h3⟩ hc
theorem msk_lt64 (p : Nat → Bool) (lo : Nat) {m : Nat} (h : m ≤ 6) : msk p lo m < 64 := Nat.lt_of_lt_of_le (msk_lt p lo m) (Nat.pow_le_pow_right (by decide) h)
section WRG
variable (S : St) (v i : Nat) (x : Int32)
theorem wr_1 (v' i' : Nat) : (wr S v i x).1 v' i' = if v' = v then (if i' = i then x else S.1 v' i') else S.1 v' i' := by
  unfold wr va_up upd
  by_cases h : v' = v
  · subst h; simp
  · simp [h]
theorem wr_2 : (wr S v i x).2 = S.2 := rfl
theorem wrR_1 : (wrR S v i x).1 = S.1 := rfl
theorem wrR_2 (v' i' : Nat) : (wrR S v i x).2.1 v' i' = if v' = v then (if i' = i then x else S.2.1 v' i') else S.2.1 v' i' := by
  unfold wrR va_up upd
  by_cases h : v' = v
  · subst h; simp
  · simp [h]
theorem wrR_3 : (wrR S v i x).2.2 = S.2.2 := rfl
end WRG
section WRL
variable (S : St) (v i : Nat) (x : Int64)
theorem wrL_1 : (wrL S v i x).1 = S.1 := rfl
theorem wrL_2 : (wrL S v i x).2.1 = S.2.1 := rfl
theorem wrL_3 (v' i' : Nat) : (wrL S v i x).2.2 v' i' = if v' = v then (if i' = i then x else S.2.2 v' i') else S.2.2 v' i' := by
  unfold wrL va_up vp_updL
  by_cases h : v' = v
  · subst h; simp
  · simp [h]
end WRL
