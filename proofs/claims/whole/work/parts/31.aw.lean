/-! the way of a program, over naturals: AW v i. 5 made, 7 how many accesses, 9 hart, 10 first, 11 reserve + 1, 12 way, 13 needed for places, 14 and 15 fenced, 24 values, 25 carried,
 30 hart, 31 kind, 32 location, 33 marks, 36 got, 37 put, 38 by place, 39 by value, 40 reserve + 1, 41 own write + 1, 42 twins, 43 after, 50 by way; 51 fences, 52 hart, 53 at, 54 first, 55 second; 56 the limit of a choice -/
abbrev AW : Type := Nat → Nat → Nat
def su (σ : AW) (v i x : Nat) : AW := fun v' i' => if v' = v ∧ i' = i then x else σ v' i'
theorem su_g (σ : AW) (v i x v' i' : Nat) : su σ v i x v' i' = if v' = v ∧ i' = i then x else σ v' i' := rfl
def rdK (k : Nat) : Bool := k == 0 || k == 2 || k == 3 || k == 4
def wtK (k : Nat) : Bool := k == 1 || k == 2 || k == 3 || k == 5
def b2n (b : Bool) : Nat := if b then 1 else 0
def atK (k : Nat) : Nat := if k = 2 ∨ k = 3 ∨ k = 5 then 3 else 2
/-- the largest m with lo ≤ m < n and p m, plus 1 -/
def ownF (p : Nat → Bool) (lo : Nat) : Nat → Nat
  | 0 => 0
  | m + 1 => if lo ≤ m ∧ p m = true then m + 1 else ownF p lo m
def aSet (σ : AW) (h r v c : Nat) : AW := su (su σ 24 (4 * h + r) (v % 4)) 25 (4 * h + r) c
def aLoc (σ : AW) (h x y : Nat) : Nat := if y = 0 then x else (x + σ 24 (4 * h + (y - 1))) % 3
def aMay (σ : AW) (h : Nat) (u : Nat → Nat) : Bool := decide (σ 11 0 ≠ 0) && decide (σ 32 (σ 11 0 - 1) = aLoc σ h (u 3) (u 4))
/-- what is fenced: of those from first on -/
def fnP (σ : AW) (f : Nat) (i : Nat) : Bool := (rdK (σ 31 i) && f.testBit 0) || (wtK (σ 31 i) && f.testBit 1)
def aFence (σ : AW) (h f1 f2 : Nat) : AW :=
  let b := msk (fnP σ f1) (σ 10 0) (σ 7 0)
  let σ := su (su σ 14 0 (σ 14 0 ||| (if f2.testBit 0 then b else 0))) 15 0 (σ 15 0 ||| (if f2.testBit 1 then b else 0))
  su (su (su (su (su σ 52 (σ 51 0) h) 53 (σ 51 0) (σ 7 0)) 54 (σ 51 0) f1) 55 (σ 51 0) f2) 51 0 (σ 51 0 + 1)
/-- whether a must stand before the newest, of this kind, location, marks, needs and reserve -/
def orP (mo : Nat) (σ : AW) (k lc mk nd rs : Nat) (a : Nat) : Bool :=
  (wtK k && σ 32 a == lc) || (((if rdK k then σ 14 0 else 0) ||| (if wtK k then σ 15 0 else 0)).testBit a) || ((σ 33 a).testBit 0 || mk.testBit 1) || (σ 33 a != 0 && mk != 0) || (rs == a + 1) || ((nd ||| (if wtK k then σ 12 0 ||| σ 13 0 else 0)).testBit a) || (mo == 2 || (mo == 1 && (rdK (σ 31 a) || wtK k)))
def owP (σ : AW) (lc : Nat) (a : Nat) : Bool := σ 32 a == lc && wtK (σ 31 a)
def twP (σ : AW) (k lc : Nat) (a : Nat) : Bool := σ 32 a == lc && rdK k && rdK (σ 31 a) && ownF (owP σ lc) (a + 1) (σ 7 0) == 0
def aAcc (mo : Nat) (u : Nat → Nat) (h : Nat) (σ : AW) (g : Nat) : AW :=
  let k := u 0
  let n := σ 7 0
  let lc := aLoc σ h (u (atK k)) (u (atK k + 1))
  let mk := u (atK k + 2)
  let bp := if u (atK k + 1) = 0 then 0 else σ 25 (4 * h + (u (atK k + 1) - 1))
  let bv := if wtK k then σ 25 (4 * h + u (atK k - 1)) else 0
  let rs := if k = 5 then σ 11 0 else 0
  let gt := if rdK k then g else 0
  let pt := if wtK k then (σ 24 (4 * h + u (atK k - 1)) + (if k = 3 then gt else 0)) % 4 else 0
  let af := msk (orP mo σ k lc mk (bp ||| bv) rs) (σ 10 0) n
  let ow := ownF (owP σ lc) (σ 10 0) n
  let tw := msk (twP σ k lc) (σ 10 0) n
  let τ := su (su (su (su (su (su (su (su (su (su (su (su (su σ 30 n h) 31 n k) 32 n lc) 33 n mk) 36 n gt) 37 n pt) 38 n bp) 39 n bv) 40 n rs) 41 n ow) 42 n tw) 43 n af) 50 n (σ 12 0)
  let τ := su (su τ 7 0 (n + 1)) 13 0 (σ 13 0 ||| bp)
  let τ := if k = 4 then su τ 11 0 (n + 1) else τ
  if k = 1 then τ else aSet τ h (u 1) gt (2 ^ n)
def aCh (σ : AW) (lim : Nat) : AW := su (su σ 56 (σ 5 0) lim) 5 0 (σ 5 0 + 1)
def aStep (mo : Nat) (u : Nat → Nat) (h : Nat) (σ : AW) (g : Nat) : AW × Nat :=
  if u 0 = 10 then (su σ 12 0 (σ 12 0 ||| σ 25 (4 * h + u 1)), if σ 24 (4 * h + u 1) = 0 then u 2 else 0)
  else if u 0 = 6 then (aFence σ h (u 1) (u 2), 0)
  else if u 0 = 7 then (aSet σ h (u 1) (u 2) 0, 0)
  else if u 0 = 8 then (aSet σ h (u 1) (σ 24 (4 * h + u 2) + σ 24 (4 * h + u 3)) (σ 25 (4 * h + u 2) ||| σ 25 (4 * h + u 3)), 0)
  else if u 0 = 9 then (aSet σ h (u 1) (σ 24 (4 * h + u 2) ^^^ σ 24 (4 * h + u 3)) (σ 25 (4 * h + u 2) ||| σ 25 (4 * h + u 3)), 0)
  else if u 0 = 5 then
    (if aMay σ h u then (if g = 1 then (su (aSet (aCh σ 2) h (u 1) 1 0) 11 0 0, 0) else (su (aAcc mo u h (aCh σ 2) 0) 11 0 0, 0))
     else (su (aSet σ h (u 1) 1 0) 11 0 0, 0))
  else (aAcc mo u h (if rdK (u 0) then aCh σ 4 else σ) g, 0)
/-- does this instruction choose -/
def aUse (u : Nat → Nat) (h : Nat) (σ : AW) : Bool := rdK (u 0) || (u 0 == 5 && aMay σ h u)
def aHart (mo : Nat) (P : Nat → Nat → Nat → Nat) (L : Nat → Nat) (ch : Nat → Nat) (h : Nat) : Nat → Nat → AW → AW
  | 0, _, σ => σ
  | f + 1, i, σ => if i < L h then aHart mo P L ch h f (i + 1 + (aStep mo (P h i) h σ (ch (σ 5 0))).2) (aStep mo (P h i) h σ (ch (σ 5 0))).1 else σ
def aBeg (σ : AW) (h : Nat) : AW := su (su (su (su (su (su (su σ 9 0 h) 10 0 (σ 7 0)) 11 0 0) 12 0 0) 13 0 0) 14 0 0) 15 0 0
def aHt (mo : Nat) (P : Nat → Nat → Nat → Nat) (L : Nat → Nat) (ch : Nat → Nat) (σ : AW) (h : Nat) : AW := aHart mo P L ch h 7 0 (aBeg σ h)
def aWay (mo : Nat) (P : Nat → Nat → Nat → Nat) (L : Nat → Nat) (ch : Nat → Nat) : AW := aHt mo P L ch (aHt mo P L ch (aHt mo P L ch (aHt mo P L ch (fun _ _ => 0) 0) 1) 2) 3
/-- an instruction's numbers are as told; the register of a place is one more than it is, 0 for none -/
def yK (k : Nat) : Nat := if k = 0 ∨ k = 1 ∨ k = 4 then 3 else if k = 2 ∨ k = 3 ∨ k = 5 then 4 else 9
def dcK (k j p : Nat) : Int32 := if j = yK k then nI p - 1 else nI p
def GR (u : Nat → Nat) : Prop :=
  (u 0 = 0 ∨ u 0 = 1 ∨ u 0 = 4) ∧ u 1 < 4 ∧ u 2 < 3 ∧ u 3 < 5 ∧ u 4 < 4 ∨
  (u 0 = 2 ∨ u 0 = 3 ∨ u 0 = 5) ∧ u 1 < 4 ∧ u 2 < 4 ∧ u 3 < 3 ∧ u 4 < 5 ∧ u 5 < 4 ∨
  u 0 = 6 ∧ u 1 < 4 ∧ u 2 < 4 ∨ u 0 = 7 ∧ u 1 < 4 ∧ u 2 < 4 ∨ (u 0 = 8 ∨ u 0 = 9) ∧ u 1 < 4 ∧ u 2 < 4 ∧ u 3 < 4 ∨ u 0 = 10 ∧ u 1 < 4 ∧ 1 ≤ u 2 ∧ u 2 < 6
theorem msk_up (q : Nat → Bool) {i n : Nat} (h : i < n) : msk q i n = msk q (i + 1) n ||| (if q i = true then 2 ^ i else 0) := by
  apply Nat.eq_of_testBit_eq
  intro a
  rw [Nat.testBit_or, msk_bit, msk_bit]
  by_cases e : a = i
  · subst e
    by_cases hq : q a = true
    · simp [hq, h, Nat.testBit_two_pow]
    · simp [hq]
  · have e1 : decide (i ≤ a ∧ a < n ∧ q a = true) = decide (i + 1 ≤ a ∧ a < n ∧ q a = true) := by
      congr 1; apply propext; constructor <;> rintro ⟨h1, h2, h3⟩ <;> exact ⟨by omega, h2, h3⟩
    rw [e1]
    split
    · rw [Nat.testBit_two_pow]; simp; intro z; exact absurd z.symm e
    · simp
theorem msk_top (q : Nat → Bool) (n : Nat) : msk q n n = 0 := by
  apply Nat.eq_of_testBit_eq
  intro a
  rw [msk_bit, Nat.zero_testBit]
  simp; intro h1 h2; omega
theorem ownF_le (p : Nat → Bool) (lo : Nat) : ∀ n, ownF p lo n ≤ n
  | 0 => Nat.le_refl _
  | m + 1 => by
    rw [ownF]; split
    · exact Nat.le_refl _
    · have := ownF_le p lo m; omega
theorem ownF_top (p : Nat → Bool) (n : Nat) : ∀ m, m ≤ n → ownF p n m = 0
  | 0, _ => rfl
  | m + 1, h => by rw [ownF, if_neg (by omega)]; exact ownF_top p n m (by omega)
theorem ownF_lo (p : Nat → Bool) (lo : Nat) : ∀ n, ownF p lo n ≠ 0 → lo < ownF p lo n ∧ p (ownF p lo n - 1) = true
  | 0, h => absurd rfl h
  | m + 1, h => by
    rw [ownF] at h ⊢
    split at h
    · rename_i hc; rw [if_pos hc]; exact ⟨by omega, hc.2⟩
    · rename_i hc; rw [if_neg hc]; exact ownF_lo p lo m h
theorem ownF_up (p : Nat → Bool) {i : Nat} : ∀ n, i < n → ownF p i n = (if ownF p (i + 1) n = 0 then (if p i = true then i + 1 else 0) else ownF p (i + 1) n)
  | 0, h => absurd h (Nat.not_lt_zero _)
  | m + 1, h => by
    have h1 : ∀ lo, lo ≤ m → p m = true → ownF p lo (m + 1) = m + 1 := fun lo hl hp => by rw [ownF, if_pos ⟨hl, hp⟩]
    have h2 : ∀ lo, ¬ p m = true → ownF p lo (m + 1) = ownF p lo m := fun lo hp => by rw [ownF, if_neg (fun q => hp q.2)]
    by_cases e : i = m
    · subst e
      rw [ownF_top p (i + 1) (i + 1) (Nat.le_refl _), if_pos rfl]
      by_cases hp : p i = true
      · rw [h1 i (Nat.le_refl _) hp, if_pos hp]
      · rw [h2 i hp, if_neg hp]
        exact ownF_top p i i (Nat.le_refl _)
    · by_cases hp : p m = true
      · rw [h1 i (by omega) hp, h1 (i + 1) (by omega) hp, if_neg (by omega)]
      · rw [h2 i hp, h2 (i + 1) hp]
        exact ownF_up p m (by omega)
