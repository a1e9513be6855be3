/-! orders of a way's accesses: what the class asks, access by access, is what the reference asks of the whole -/
/-- the one of q with the greatest p, plus 1 -/
def amx (q : Nat → Bool) (p : Nat → Nat) : Nat → Nat
  | 0 => 0
  | w + 1 => if q w = true ∧ (amx q p w = 0 ∨ p (amx q p w - 1) < p w) then w + 1 else amx q p w
theorem amx_c {q q' : Nat → Bool} {p p' : Nat → Nat} : ∀ n, (∀ w, w < n → q w = q' w) → (∀ w, w < n → q w = true → p w = p' w) → amx q p n = amx q' p' n ∧ (amx q p n ≠ 0 → amx q p n ≤ n ∧ q (amx q p n - 1) = true)
  | 0, _, _ => ⟨rfl, fun h => absurd rfl h⟩
  | n + 1, h, hp => by
    obtain ⟨e, f⟩ := amx_c (q := q) (q' := q') (p := p) (p' := p') n (fun w hw => h w (by omega)) (fun w hw => hp w (by omega))
    constructor
    · rw [amx, amx, ← e, ← h n (by omega)]
      by_cases z : amx q p n = 0
      · by_cases hq : q n = true
        · rw [if_pos ⟨hq, Or.inl z⟩, if_pos ⟨hq, Or.inl z⟩]
        · rw [if_neg (fun x => hq x.1), if_neg (fun x => hq x.1)]
      · obtain ⟨f1, f2⟩ := f z
        by_cases hq : q n = true
        · rw [hp _ (by omega) f2, hp n (by omega) hq]
        · rw [if_neg (fun x => hq x.1), if_neg (fun x => hq x.1)]
    · intro z
      rw [amx] at z ⊢
      by_cases c : q n = true ∧ (amx q p n = 0 ∨ p (amx q p n - 1) < p n)
      · rw [if_pos c]; exact ⟨Nat.le_refl _, c.1⟩
      · rw [if_neg c] at z ⊢
        obtain ⟨f1, f2⟩ := f z
        exact ⟨by omega, f2⟩
theorem amx_0 {q : Nat → Bool} {p : Nat → Nat} : ∀ n, amx q p n = 0 → ∀ w, w < n → q w = false
  | 0, _, w, h => absurd h (Nat.not_lt_zero _)
  | n + 1, e, w, h => by
    rw [amx] at e
    by_cases c : q n = true ∧ (amx q p n = 0 ∨ p (amx q p n - 1) < p n)
    · rw [if_pos c] at e; omega
    · rw [if_neg c] at e
      by_cases z : w = n
      · subst z
        cases hq : q w
        · rfl
        · exact absurd ⟨hq, Or.inl e⟩ c
      · exact amx_0 n e w (by omega)
theorem amx_s {q : Nat → Bool} {p : Nat → Nat} : ∀ n, amx q p n ≠ 0 → amx q p n ≤ n ∧ q (amx q p n - 1) = true ∧ ∀ w, w < n → q w = true → p w ≤ p (amx q p n - 1)
  | 0, h => absurd rfl h
  | n + 1, h => by
    rw [amx] at h ⊢
    by_cases c : q n = true ∧ (amx q p n = 0 ∨ p (amx q p n - 1) < p n)
    · rw [if_pos c]
      refine ⟨Nat.le_refl _, c.1, fun w hw hq => ?_⟩
      rw [Nat.add_sub_cancel]
      by_cases z : w = n
      · subst z; exact Nat.le_refl _
      · rcases c.2 with e | e
        · have := amx_0 n e w (by omega); rw [hq] at this; cases this
        · have z2 : amx q p n ≠ 0 := by
            intro e2
            have := amx_0 n e2 w (by omega); rw [hq] at this; cases this
          have := (amx_s n z2).2.2 w (by omega) hq
          omega
    · rw [if_neg c] at h ⊢
      obtain ⟨f1, f2, f3⟩ := amx_s n h
      refine ⟨by omega, f2, fun w hw hq => ?_⟩
      by_cases z : w = n
      · subst z
        rcases Nat.lt_or_ge (p (amx q p w - 1)) (p w) with e | e
        · exact absurd ⟨hq, Or.inr e⟩ c
        · exact e
      · exact f3 w (by omega) hq
theorem amx_u {q : Nat → Bool} {p : Nat → Nat} {n f : Nat} (hf : f < n) (hq : q f = true) (hm : ∀ w, w < n → q w = true → w ≠ f → p w < p f) : amx q p n = f + 1 := by
  have z : amx q p n ≠ 0 := by
    intro e
    have := amx_0 n e f hf; rw [hq] at this; cases this
  obtain ⟨f1, f2, f3⟩ := amx_s n z
  by_cases e : amx q p n - 1 = f
  · omega
  · have := hm _ (by omega) f2 e
    have := f3 f hf hq
    omega
/-- the newest write to a place, of those before d -/
def ltQ (σ : AW) (p : Nat → Nat) (d x : Nat) (w : Nat) : Bool := wtK (σ 31 w) && σ 32 w == x && decide (p w < d)
def ltOf (σ : AW) (p : Nat → Nat) (d x : Nat) : Nat := amx (ltQ σ p d x) p (σ 7 0)
theorem ltQ_t {σ : AW} {p : Nat → Nat} {d x w : Nat} : ltQ σ p d x w = true ↔ wtK (σ 31 w) = true ∧ σ 32 w = x ∧ p w < d := by
  unfold ltQ; simp [and_assoc]
/-- the source that the class finds at depth d -/
def srcB (σ : AW) (p : Nat → Nat) (d i : Nat) : Nat := if σ 41 i ≠ 0 ∧ ¬ p (σ 41 i - 1) < d then σ 41 i else ltOf σ p d (σ 32 i)
def sp (σ : AW) (p : Nat → Nat) (i : Nat) : Nat := srcB σ p (p i) i
def vl (σ : AW) (s : Nat) : Nat := if s = 0 then 0 else σ 37 (s - 1)
/-- what the class asks of the access that is put next -/
def stepB (σ : AW) (p : Nat → Nat) (d i : Nat) : Prop :=
  (∀ a, (σ 43 i).testBit a = true → p a < d) ∧
  (rdK (σ 31 i) = true → vl σ (srcB σ p d i) = σ 36 i ∧ (srcB σ p d i = 0 ∨ p (srcB σ p d i - 1) < d ∨ σ 31 (srcB σ p d i - 1) = 1 ∧ ∀ a, (σ 38 (srcB σ p d i - 1) ||| σ 39 (srcB σ p d i - 1)).testBit a = true → p a < d) ∧
    ∀ l, i < l → l < σ 7 0 → p l < d → (σ 42 l).testBit i = true → sp σ p l = srcB σ p d i) ∧
  (σ 40 i ≠ 0 → ∀ w, w < σ 7 0 → p w < d → wtK (σ 31 w) = true → σ 30 w ≠ σ 30 i → σ 32 w = σ 32 i → sp σ p (σ 40 i - 1) ≠ 0 ∧ p w ≤ p (sp σ p (σ 40 i - 1) - 1))
/-- an order of all -/
def CO (σ : AW) (p : Nat → Nat) : Prop := (∀ a, a < σ 7 0 → p a < σ 7 0) ∧ (∀ a b, a < σ 7 0 → b < σ 7 0 → p a = p b → a = b)
/-- the source that the reference finds -/
def srQ (σ : AW) (p : Nat → Nat) (b w : Nat) : Bool := w != b && wtK (σ 31 w) && σ 32 w == σ 32 b && (decide (p w < p b) || (σ 30 w == σ 30 b && decide (w < b)))
def srcR (σ : AW) (p : Nat → Nat) (b : Nat) : Nat := amx (srQ σ p b) p (σ 7 0)
theorem srQ_t {σ : AW} {p : Nat → Nat} {b w : Nat} : srQ σ p b w = true ↔ w ≠ b ∧ wtK (σ 31 w) = true ∧ σ 32 w = σ 32 b ∧ (p w < p b ∨ σ 30 w = σ 30 b ∧ w < b) := by
  unfold srQ; simp [and_assoc]
def asked (σ : AW) (p : Nat → Nat) (a b : Nat) : Prop :=
  (rdK (σ 31 a) = true ∧ σ 32 a = σ 32 b ∧ (∀ m, a < m → m < b → wtK (σ 31 m) = true → σ 32 m ≠ σ 32 a) ∧ srcR σ p a ≠ srcR σ p b) ∨
  ((σ 31 a = 2 ∨ σ 31 a = 3 ∨ σ 31 a = 5) ∧ srcR σ p b = a + 1) ∨
  (∃ m, srcR σ p b = m + 1 ∧ a < m ∧ m < b ∧ σ 30 m = σ 30 a ∧ ((σ 38 m).testBit a = true ∨ (σ 39 m).testBit a = true))
def atomR (σ : AW) (p : Nat → Nat) (c : Nat) : Prop :=
  (srcR σ p (σ 40 c - 1) = 0 ∨ p (srcR σ p (σ 40 c - 1) - 1) < p c) ∧
  ∀ w, w < σ 7 0 → w + 1 ≠ srcR σ p (σ 40 c - 1) → wtK (σ 31 w) = true → σ 30 w ≠ σ 30 c → σ 32 w = σ 32 c → (srcR σ p (σ 40 c - 1) ≠ 0 ∧ p w < p (srcR σ p (σ 40 c - 1) - 1)) ∨ p c < p w
def isOrd (σ : AW) (p : Nat → Nat) : Prop :=
  (∀ a b, a < b → b < σ 7 0 → (σ 43 b).testBit a = true → ¬ p b < p a) ∧
  (∀ b, b < σ 7 0 → rdK (σ 31 b) = true → vl σ (srcR σ p b) = σ 36 b) ∧
  (∀ b, b < σ 7 0 → (∀ a, a < b → ¬ (rdK (σ 31 b) = true ∧ σ 30 a = σ 30 b ∧ p b < p a ∧ asked σ p a b)) ∧ (σ 31 b = 5 → atomR σ p b))
section CORE
variable {mo : Nat} {σ : AW} {p : Nat → Nat}
theorem rule1 (hW : WS mo σ) {a b : Nat} (hb : b < σ 7 0) (hab : a < b) (hh : σ 30 a = σ 30 b) (hw : wtK (σ 31 b) = true) (hl : σ 32 a = σ 32 b) : (σ 43 b).testBit a = true :=
  ((hW.2.1 b hb).1 a).mpr ⟨hab, hh, Or.inr (Or.inl ⟨hw, hl⟩)⟩
theorem src_eq (hW : WS mo σ) (hH : ∀ b, b < σ 7 0 → ∀ a, (σ 43 b).testBit a = true → p a < p b) {b : Nat} (hb : b < σ 7 0) : sp σ p b = srcR σ p b := by
  have same : (∀ w, w < σ 7 0 → w < b → σ 30 w = σ 30 b → wtK (σ 31 w) = true → σ 32 w = σ 32 b → p w < p b) → ltOf σ p (p b) (σ 32 b) = srcR σ p b := by
    intro hh
    refine (amx_c (σ 7 0) (fun w hw => ?_) (fun _ _ _ => rfl)).1
    rw [Bool.eq_iff_iff, ltQ_t, srQ_t]
    constructor
    · rintro ⟨q1, q2, q3⟩
      exact ⟨fun e => by subst e; omega, q1, q2, Or.inl q3⟩
    · rintro ⟨q0, q1, q2, q3 | ⟨q3, q4⟩⟩
      · exact ⟨q1, q2, q3⟩
      · exact ⟨q1, q2, hh w hw q4 q3 q1 q2⟩
  unfold sp srcB
  rcases (hW.2.1 b hb).2.1 with ⟨e, h0⟩ | ⟨w0, e, e1, e2, e3, e4, e5⟩
  · rw [if_neg (fun x => x.1 e)]
    exact same (fun w _ q1 q2 q3 q4 => absurd q4 (h0 w q1 q2 q3))
  · rw [e, Nat.add_sub_cancel]
    have le : ∀ w, w < b → σ 30 w = σ 30 b → wtK (σ 31 w) = true → σ 32 w = σ 32 b → w ≠ w0 → p w < p w0 := by
      intro w q1 q2 q3 q4 q5
      have : w < w0 := by
        rcases Nat.lt_or_ge w0 w with z | z
        · exact absurd q4 (e5 w z q1 q3)
        · omega
      exact hH w0 (by omega) w (rule1 hW (by omega) this (by rw [q2, e2]) e3 (by rw [q4, e4]))
    by_cases c : p w0 < p b
    · rw [if_neg (fun x => x.2 c)]
      refine same (fun w _ q1 q2 q3 q4 => ?_)
      by_cases z : w = w0
      · subst z; exact c
      · have := le w q1 q2 q3 q4 z; omega
    · rw [if_pos ⟨by omega, c⟩]
      refine (amx_u (by omega) (srQ_t.mpr ⟨by omega, e3, e4, Or.inr ⟨e2, e1⟩⟩) (fun w hw hq z => ?_)).symm
      obtain ⟨q0, q1, q2, q3 | ⟨q3, q4⟩⟩ := srQ_t.mp hq
      · omega
      · exact le w q4 q3 q1 q2 z
theorem src_s {b : Nat} (h : srcR σ p b ≠ 0) : srcR σ p b - 1 < σ 7 0 ∧ srcR σ p b - 1 ≠ b ∧ wtK (σ 31 (srcR σ p b - 1)) = true ∧ σ 32 (srcR σ p b - 1) = σ 32 b ∧ (p (srcR σ p b - 1) < p b ∨ σ 30 (srcR σ p b - 1) = σ 30 b ∧ srcR σ p b - 1 < b) := by
  obtain ⟨f1, f2, f3⟩ := amx_s _ h
  unfold srcR at h ⊢
  have := srQ_t.mp f2
  exact ⟨by omega, this⟩
theorem core (hW : WS mo σ) (hC : CO σ p) : (∀ b, b < σ 7 0 → stepB σ p (p b) b) ↔ isOrd σ p := by
  have AI : ∀ i, i < σ 7 0 → AI σ i := hW.1.2.2.2
  constructor
  · intro hS
    have hH : ∀ b, b < σ 7 0 → ∀ a, (σ 43 b).testBit a = true → p a < p b := fun b hb => (hS b hb).1
    have es : ∀ b, b < σ 7 0 → sp σ p b = srcR σ p b := fun b hb => src_eq hW hH hb
    have es' : ∀ b, b < σ 7 0 → srcB σ p (p b) b = srcR σ p b := es
    refine ⟨fun a b hab hb q => ?_, fun b hb hr => ?_, fun b hb => ⟨fun a hab => ?_, fun h5 => ?_⟩⟩
    · have := hH b hb a q; omega
    · rw [← es' b hb]; exact ((hS b hb).2.1 hr).1
    · rintro ⟨hr, hh, hp, q⟩
      obtain ⟨s1, s2, s3⟩ := (hS b hb).2.1 hr
      rw [es' b hb] at s1 s2 s3
      rcases q with ⟨q1, q2, q3, q4⟩ | ⟨q1, q2⟩ | ⟨m, q1, q2, q3, q4, q5⟩
      · have tw : (σ 42 b).testBit a = true := ((hW.2.1 b hb).2.2.1 a).mpr ⟨hab, hh, q2, hr, q1, fun m m1 m2 m3 => by rw [← q2]; exact q3 m m1 m2 m3⟩
        have := ((hS a (by omega)).2.1 q1).2.2 b hab hb hp tw
        rw [es b hb, es' a (by omega)] at this
        exact q4 this.symm
      · rw [q2] at s2
        rcases s2 with s2 | s2 | s2
        · omega
        · rw [Nat.add_sub_cancel] at s2; omega
        · rw [Nat.add_sub_cancel] at s2; omega
      · rw [q1, Nat.add_sub_cancel] at s2
        rcases s2 with s2 | s2 | s2
        · omega
        · have : (σ 43 m).testBit a = true := ((hW.2.1 m (by omega)).1 a).mpr ⟨q2, q4.symm, by
            rcases q5 with z | z
            · exact Or.inr (Or.inr (Or.inr (Or.inr (Or.inr (Or.inr (Or.inr (Or.inl z)))))))
            · exact Or.inr (Or.inr (Or.inr (Or.inr (Or.inr (Or.inr (Or.inr (Or.inr (Or.inl z))))))))⟩
          have := hH m (by omega) a this
          omega
        · have := s2.2 a (by rw [Nat.testBit_or, Bool.or_eq_true]; exact q5)
          omega
    · obtain ⟨r, r1, r2, r3, r4, r5⟩ := (hW.2.1 b hb).2.2.2.2.1 h5
      have s3 := (hS b hb).2.2 (by omega)
      unfold atomR
      rw [r1, Nat.add_sub_cancel] at s3 ⊢
      rw [es r (by omega)] at s3
      have pr : p r < p b := hH b hb r (((hW.2.1 b hb).1 r).mpr ⟨r2, r3, Or.inr (Or.inr (Or.inr (Or.inr (Or.inr (Or.inr (Or.inl ⟨h5, r1⟩))))))⟩)
      constructor
      · by_cases z : srcR σ p r = 0
        · exact Or.inl z
        · right
          obtain ⟨t1, t2, t3, t4, t5⟩ := src_s z
          rcases t5 with t5 | ⟨t5, t6⟩
          · omega
          · exact hH b hb _ (rule1 hW hb (by omega) (by rw [t5, r3]) (by rw [h5]; rfl) (by rw [t4, r5]))
      · intro w hw n1 n2 n3 n4
        rcases Nat.lt_or_ge (p w) (p b) with z | z
        · obtain ⟨z1, z2⟩ := s3 w hw z n2 n3 n4
          obtain ⟨t1, -⟩ := src_s z1
          refine Or.inl ⟨z1, ?_⟩
          have : p w ≠ p (srcR σ p r - 1) := fun e => by
            have := hC.2 _ _ hw t1 e; omega
          omega
        · right
          have : p w ≠ p b := fun e => n3 (by rw [hC.2 _ _ hw hb e])
          omega
  · rintro ⟨om, orr, oq⟩
    have hH : ∀ b, b < σ 7 0 → ∀ a, (σ 43 b).testBit a = true → p a < p b := by
      intro b hb a q
      have hab := (((hW.2.1 b hb).1 a).mp q).1
      have := om a b hab hb q
      have : p a ≠ p b := fun e => by have := hC.2 _ _ (by omega) hb e; omega
      omega
    have es : ∀ b, b < σ 7 0 → sp σ p b = srcR σ p b := fun b hb => src_eq hW hH hb
    have es' : ∀ b, b < σ 7 0 → srcB σ p (p b) b = srcR σ p b := es
    intro b hb
    refine ⟨hH b hb, fun hr => ?_, fun h0 w hw n1 n2 n3 n4 => ?_⟩
    · rw [es' b hb]
      refine ⟨orr b hb hr, ?_, fun l hl1 hl2 hl3 hl4 => ?_⟩
      · by_cases z : srcR σ p b = 0
        · exact Or.inl z
        · obtain ⟨t1, t2, t3, t4, t5⟩ := src_s z
          by_cases c : p (srcR σ p b - 1) < p b
          · exact Or.inr (Or.inl c)
          · obtain ⟨t5, t6⟩ := t5.resolve_left c
            have hne : p (srcR σ p b - 1) ≠ p b := fun e => t2 (hC.2 _ _ t1 hb e)
            refine Or.inr (Or.inr ⟨?_, fun a ha => ?_⟩)
            · by_cases k1 : σ 31 (srcR σ p b - 1) = 1
              · exact k1
              · exfalso
                have k6 := (AI _ t1).2.1
                refine (oq b hb).1 (srcR σ p b - 1) t6 ⟨hr, t5, by omega, Or.inr (Or.inl ⟨?_, by omega⟩)⟩
                have : ∀ k, k < 6 → k ≠ 1 → wtK k = true → k = 2 ∨ k = 3 ∨ k = 5 := by decide
                exact this _ k6 k1 t3
            · rw [Nat.testBit_or, Bool.or_eq_true] at ha
              obtain ⟨a1, a2⟩ := (hW.2.1 _ t1).2.2.2.1 a ha
              rcases Nat.lt_or_ge (p a) (p b) with y | y
              · exact y
              · exfalso
                have : p a ≠ p b := fun e => by have := hC.2 _ _ (by omega) hb e; omega
                exact (oq b hb).1 a (by omega) ⟨hr, by rw [a2, t5], by omega, Or.inr (Or.inr ⟨srcR σ p b - 1, by omega, a1, t6, a2.symm, ha⟩)⟩
      · rw [es l hl2]
        obtain ⟨u1, u2, u3, u4, u5, u6⟩ := ((hW.2.1 l hl2).2.2.1 b).mp hl4
        by_cases e : srcR σ p l = srcR σ p b
        · exact e
        · exfalso
          exact (oq l hl2).1 b hl1 ⟨u4, u2, hl3, Or.inl ⟨u5, u3, fun m m1 m2 m3 => by rw [u3]; exact u6 m m1 m2 m3, fun x => e x.symm⟩⟩
    · have h5 : σ 31 b = 5 := by
        by_cases q : σ 31 b = 5
        · exact q
        · exact absurd ((hW.2.1 b hb).2.2.2.2.2 q) h0
      obtain ⟨r, r1, r2, r3, r4, r5⟩ := (hW.2.1 b hb).2.2.2.2.1 h5
      have at' := ((oq b hb).2 h5).2
      rw [r1, Nat.add_sub_cancel] at at' ⊢
      rw [es r (by omega)]
      by_cases z : w + 1 = srcR σ p r
      · rw [← z, Nat.add_sub_cancel]; exact ⟨by omega, Nat.le_refl _⟩
      · rcases at' w hw z n2 n3 n4 with q | q
        · exact ⟨q.1, by omega⟩
        · omega
end CORE
