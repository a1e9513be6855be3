/-! orders, put one behind another -/
theorem php : ∀ (n : Nat) (c : Nat → Nat), (∀ k, k ≤ n → c k < n) → ∃ i j, i < j ∧ j ≤ n ∧ c i = c j
  | 0, c, h => absurd (h 0 (Nat.le_refl _)) (Nat.not_lt_zero _)
  | n + 1, c, h => by
    by_cases hx : ∃ k, k ≤ n ∧ c k = c (n + 1)
    · obtain ⟨k, h1, h2⟩ := hx
      exact ⟨k, n + 1, by omega, Nat.le_refl _, h2⟩
    · have hne : ∀ k, k ≤ n → c k ≠ c (n + 1) := fun k hk e => hx ⟨k, hk, e⟩
      obtain ⟨i, j, h1, h2, h3⟩ := php n (fun k => if c k = n then c (n + 1) else c k) (fun k hk => by
        have a := h k (by omega)
        have b := h (n + 1) (by omega)
        have d := hne k hk
        show (if c k = n then c (n + 1) else c k) < n
        split <;> omega)
      refine ⟨i, j, h1, by omega, ?_⟩
      have a := hne i (by omega)
      have b := hne j (by omega)
      split at h3 <;> split at h3 <;> omega
theorem co_onto {n d : Nat} {p : Nat → Nat} (h1 : ∀ a, a < n → p a < n) (h2 : ∀ a b, a < n → b < n → p a = p b → a = b) (hd : d < n) : ∃ i, i < n ∧ p i = d := by
  by_cases hx : ∃ i, i < n ∧ p i = d
  · exact hx
  · exfalso
    have hne : ∀ i, i < n → p i ≠ d := fun i hi e => hx ⟨i, hi, e⟩
    obtain ⟨i, j, q1, q2, q3⟩ := php (n - 1) (fun k => if d < p k then p k - 1 else p k) (fun k hk => by
      have a := h1 k (by omega)
      have b := hne k (by omega)
      show (if d < p k then p k - 1 else p k) < n - 1
      split <;> omega)
    have a := hne i (by omega)
    have b := hne j (by omega)
    have e : p i = p j := by
      split at q3 <;> split at q3 <;> omega
    have := h2 i j (by omega) (by omega) e
    omega
theorem onto_co {n : Nat} {p : Nat → Nat} (h : ∀ k, k < n → ∃ a, a < n ∧ p a = k) : ∀ a, a < n → p a < n := by
  intro a0 ha
  rcases Nat.lt_or_ge (p a0) n with q | q
  · exact q
  · exfalso
    obtain ⟨c, hc⟩ : ∃ c : Nat → Nat, ∀ k, k < n → c k < n ∧ p (c k) = k := ⟨fun k => if hk : k < n then Classical.choose (h k hk) else 0, fun k hk => by dsimp only; rw [dif_pos hk]; exact Classical.choose_spec (h k hk)⟩
    have hne : ∀ k, k < n → c k ≠ a0 := fun k hk e => by have := (hc k hk).2; rw [e] at this; omega
    obtain ⟨i, j, q1, q2, q3⟩ := php (n - 1) (fun k => if a0 < c k then c k - 1 else c k) (fun k hk => by
      have a := (hc k (by omega)).1
      have b := hne k (by omega)
      show (if a0 < c k then c k - 1 else c k) < n - 1
      split <;> omega)
    have a := hne i (by omega)
    have b := hne j (by omega)
    have e : c i = c j := by
      split at q3 <;> split at q3 <;> omega
    have e1 := (hc i (by omega)).2
    have e2 := (hc j (by omega)).2
    rw [e] at e1
    omega
def pu (p : Nat → Nat) (i d : Nat) : Nat → Nat := fun a => if a = i then d else p a
theorem pu_s (p : Nat → Nat) (i d : Nat) : pu p i d i = d := if_pos rfl
theorem pu_n {p : Nat → Nat} {i d a : Nat} (h : a ≠ i) : pu p i d a = p a := if_neg h
def fm (g : Nat → List (Nat → Nat)) : Nat → Nat → List (Nat → Nat)
  | _, 0 => []
  | j, c + 1 => g j ++ fm g (j + 1) c
theorem mem_fm {g : Nat → List (Nat → Nat)} {x : Nat → Nat} : ∀ c j, x ∈ fm g j c ↔ ∃ i, j ≤ i ∧ i < j + c ∧ x ∈ g i
  | 0, j => by
    rw [fm]
    constructor
    · intro h; cases h
    · rintro ⟨i, h1, h2, -⟩; omega
  | c + 1, j => by
    rw [fm, List.mem_append, mem_fm c (j + 1)]
    constructor
    · rintro (h | ⟨i, h1, h2, h3⟩)
      · exact ⟨j, Nat.le_refl _, by omega, h⟩
      · exact ⟨i, by omega, by omega, h3⟩
    · rintro ⟨i, h1, h2, h3⟩
      by_cases e : i = j
      · subst e; exact Or.inl h3
      · exact Or.inr ⟨i, by omega, by omega, h3⟩
noncomputable def gF (σ : AW) : Nat → Nat → (Nat → Nat) → List (Nat → Nat)
  | 0, _, p => [p]
  | f + 1, d, p => fm (fun i => @ite _ (d ≤ p i ∧ stepB σ p d i) (Classical.propDecidable _) (gF σ f (d + 1) (pu p i d)) []) 0 (σ 7 0)
/-- the first d are put -/
def PO (σ : AW) (d : Nat) (p : Nat → Nat) : Prop :=
  d ≤ σ 7 0 ∧ (∀ a b, a < σ 7 0 → b < σ 7 0 → p a < d → p b < d → p a = p b → a = b) ∧ (∀ k, k < d → ∃ a, a < σ 7 0 ∧ p a = k) ∧ (∀ a, a < σ 7 0 → d ≤ p a → σ 7 0 ≤ p a)
def AG (σ : AW) (p p' : Nat → Nat) (d : Nat) : Prop := ∀ a, a < σ 7 0 → (p a < d ↔ p' a < d) ∧ (p a < d → p a = p' a)
section AGS
variable {mo : Nat} {σ : AW} {p p' : Nat → Nat} {d : Nat}
theorem AG_sym (h : AG σ p p' d) : AG σ p' p d := fun a ha => ⟨(h a ha).1.symm, fun q => ((h a ha).2 ((h a ha).1.mpr q)).symm⟩
theorem AG_le {e : Nat} (h : AG σ p p' d) (he : e ≤ d) : AG σ p p' e := by
  intro a ha
  obtain ⟨h1, h2⟩ := h a ha
  refine ⟨⟨fun q => ?_, fun q => ?_⟩, fun q => h2 (by omega)⟩
  · have := h2 (by omega); omega
  · have := h2 (h1.mpr (by omega)); omega
theorem ltOf_c (h : AG σ p p' d) (x : Nat) : ltOf σ p d x = ltOf σ p' d x := by
  refine (amx_c (σ 7 0) (fun w hw => ?_) (fun w hw hq => (h w hw).2 (ltQ_t.mp hq).2.2)).1
  rw [Bool.eq_iff_iff, ltQ_t, ltQ_t, (h w hw).1]
theorem srcB_c (hW : WS mo σ) (h : AG σ p p' d) {i : Nat} (hi : i < σ 7 0) : srcB σ p d i = srcB σ p' d i := by
  unfold srcB
  rw [ltOf_c h]
  rcases (hW.2.1 i hi).2.1 with ⟨e, -⟩ | ⟨w, e, e1, -⟩
  · rw [if_neg (fun x => x.1 e), if_neg (fun x => x.1 e)]
  · rw [e, Nat.add_sub_cancel]
    by_cases c : p w < d
    · rw [if_neg (fun x => x.2 c), if_neg (fun x => x.2 ((h w (by omega)).1.mp c))]
    · rw [if_pos ⟨by omega, c⟩, if_pos ⟨by omega, fun x => c ((h w (by omega)).1.mpr x)⟩]
theorem sp_c (hW : WS mo σ) (h : AG σ p p' d) {i : Nat} (hi : i < σ 7 0) (hp : p i < d) : sp σ p i = sp σ p' i := by
  unfold sp
  rw [← (h i hi).2 hp]
  exact srcB_c hW (AG_le h (by omega)) hi
theorem srcB_i (hW : WS mo σ) {i : Nat} (hi : i < σ 7 0) (h : srcB σ p d i ≠ 0) : srcB σ p d i - 1 < σ 7 0 ∧ wtK (σ 31 (srcB σ p d i - 1)) = true ∧ (p (srcB σ p d i - 1) < d ∨ σ 41 i = srcB σ p d i ∧ srcB σ p d i - 1 < i ∧ σ 30 (srcB σ p d i - 1) = σ 30 i) ∧ σ 32 (srcB σ p d i - 1) = σ 32 i := by
  unfold srcB at h ⊢
  by_cases c : σ 41 i ≠ 0 ∧ ¬ p (σ 41 i - 1) < d
  · rw [if_pos c] at h ⊢
    rcases (hW.2.1 i hi).2.1 with ⟨e, -⟩ | ⟨w, e, e1, e2, e3, e4, e5⟩
    · exact absurd e h
    · rw [e, Nat.add_sub_cancel]
      exact ⟨by omega, e3, Or.inr ⟨rfl, e1, e2⟩, e4⟩
  · rw [if_neg c] at h ⊢
    obtain ⟨f1, f2, f3⟩ := amx_s _ h
    obtain ⟨g1, g2, g3⟩ := ltQ_t.mp f2
    unfold ltOf at h ⊢
    exact ⟨by omega, g1, Or.inl g3, g2⟩
theorem stepB_c (hW : WS mo σ) (h : AG σ p p' d) {i : Nat} (hi : i < σ 7 0) (hs : stepB σ p d i) : stepB σ p' d i := by
  obtain ⟨s1, s2, s3⟩ := hs
  have af := (hW.2.1 i hi).1
  have b1 : ∀ a, (σ 43 i).testBit a = true → p' a < d := fun a ha => (h a (by have := ((af a).mp ha).1; omega)).1.mp (s1 a ha)
  refine ⟨b1, fun hr => ?_, fun h0 w hw n1 n2 n3 n4 => ?_⟩
  · obtain ⟨t1, t2, t3⟩ := s2 hr
    have e := srcB_c hW h hi
    have gi := @srcB_i mo σ p d hW i hi
    rw [← e]
    refine ⟨t1, ?_, fun l l1 l2 l3 l4 => ?_⟩
    · by_cases z : srcB σ p d i = 0
      · exact Or.inl z
      · obtain ⟨g1, g2, g3, g4⟩ := gi z
        rcases t2 with t2 | t2 | ⟨t2, t4⟩
        · exact Or.inl t2
        · exact Or.inr (Or.inl ((h _ g1).1.mp t2))
        · refine Or.inr (Or.inr ⟨t2, fun a ha => ?_⟩)
          have ha2 := ha
          rw [Nat.testBit_or, Bool.or_eq_true] at ha2
          have := ((hW.2.1 _ g1).2.2.2.1 a ha2).1
          exact (h a (by omega)).1.mp (t4 a ha)
    · rw [← sp_c hW h l2 ((h l l2).1.mpr l3)]
      exact t3 l l1 l2 ((h l l2).1.mpr l3) l4
  · have h5 : σ 31 i = 5 := by
      by_cases q : σ 31 i = 5
      · exact q
      · exact absurd ((hW.2.1 i hi).2.2.2.2.2 q) h0
    obtain ⟨r, r1, r2, r3, r4, r5⟩ := (hW.2.1 i hi).2.2.2.2.1 h5
    have pr : p r < d := s1 r ((af r).mpr ⟨r2, r3, Or.inr (Or.inr (Or.inr (Or.inr (Or.inr (Or.inr (Or.inl ⟨h5, r1⟩))))))⟩)
    have q := s3 h0 w hw ((h w hw).1.mpr n1) n2 n3 n4
    rw [r1, Nat.add_sub_cancel] at q ⊢
    rw [← sp_c hW h (by omega) pr]
    obtain ⟨q1, q2⟩ := q
    refine ⟨q1, ?_⟩
    have es : sp σ p r = srcB σ p (p r) r := rfl
    rw [es] at q1 q2 ⊢
    obtain ⟨g1, g2, g3, g4⟩ := srcB_i hW (by omega : r < σ 7 0) q1
    have ps : p (srcB σ p (p r) r - 1) < d := by
      rcases g3 with g3 | ⟨-, g5, g6⟩
      · omega
      · exact s1 _ (rule1 hW hi (by omega) (by rw [g6, r3]) (by rw [h5]; rfl) (by rw [g4, r5]))
    rw [← (h w hw).2 ((h w hw).1.mpr n1), ← (h _ g1).2 ps]
    exact q2
end AGS
section GF
variable {mo : Nat} {σ : AW}
theorem PO_pu {d i : Nat} {p : Nat → Nat} (h : PO σ d p) (hd : d < σ 7 0) (hi : i < σ 7 0) (hp : d ≤ p i) : PO σ (d + 1) (pu p i d) := by
  obtain ⟨h1, h2, h3, h4⟩ := h
  have low : ∀ a, a < σ 7 0 → a ≠ i → pu p i d a < d + 1 → p a < d := by
    intro a ha e q
    rw [pu_n e] at q
    rcases Nat.lt_or_ge (p a) d with z | z
    · exact z
    · have := h4 a ha z; omega
  refine ⟨by omega, fun a b ha hb qa qb e => ?_, fun k hk => ?_, fun a ha q => ?_⟩
  · by_cases ea : a = i
    · by_cases eb : b = i
      · rw [ea, eb]
      · have := low b hb eb qb
        rw [ea, pu_s, pu_n eb] at e; omega
    · by_cases eb : b = i
      · have := low a ha ea qa
        rw [eb, pu_s, pu_n ea] at e; omega
      · rw [pu_n ea, pu_n eb] at e
        exact h2 a b ha hb (low a ha ea qa) (low b hb eb qb) e
  · by_cases z : k = d
    · exact ⟨i, hi, by rw [pu_s, z]⟩
    · obtain ⟨a, a1, a2⟩ := h3 k (by omega)
      refine ⟨a, a1, ?_⟩
      rw [pu_n]
      · exact a2
      · intro e; subst e; omega
  · by_cases ea : a = i
    · rw [ea, pu_s] at q; omega
    · rw [pu_n ea] at q ⊢
      exact h4 a ha (by omega)
theorem AG_pu {d i : Nat} {p : Nat → Nat} (hp : d ≤ p i) : AG σ p (pu p i d) d := by
  intro a ha
  by_cases e : a = i
  · subst e; rw [pu_s]; exact ⟨⟨fun q => by omega, fun q => by omega⟩, fun q => by omega⟩
  · rw [pu_n e]; exact ⟨Iff.rfl, fun _ => rfl⟩
theorem gF_mem (hW : WS mo σ) : ∀ (f d : Nat) (p p' : Nat → Nat), f + d = σ 7 0 → PO σ d p → (p' ∈ gF σ f d p ↔ CO σ p' ∧ (∀ a, (p a < d ∨ σ 7 0 ≤ a) → p' a = p a) ∧ (∀ a, a < σ 7 0 → d ≤ p a → d ≤ p' a) ∧ ∀ b, b < σ 7 0 → d ≤ p b → stepB σ p' (p' b) b)
  | 0, d, p, p', hf, hP => by
    have hd : d = σ 7 0 := by omega
    subst hd
    have hb := onto_co hP.2.2.1
    rw [gF, List.mem_singleton]
    constructor
    · rintro rfl
      exact ⟨⟨hb, fun a b ha hb2 e => hP.2.1 a b ha hb2 (hb a ha) (hb b hb2) e⟩, fun _ _ => rfl, fun a _ q => q, fun b hb2 q => by have := hb b hb2; omega⟩
    · rintro ⟨-, h2, -, -⟩
      funext a
      rcases Nat.lt_or_ge a (σ 7 0) with q | q
      · exact h2 a (Or.inl (hb a q))
      · exact h2 a (Or.inr q)
  | f + 1, d, p, p', hf, hP => by
    have hd : d < σ 7 0 := by omega
    rw [gF, mem_fm]
    have lowp : ∀ a, a < σ 7 0 → p a < d + 1 → p a < d := by
      intro a ha q
      rcases Nat.lt_or_ge (p a) d with z | z
      · exact z
      · have := hP.2.2.2 a ha z; omega
    constructor
    · rintro ⟨i, -, hi, hm⟩
      by_cases c : d ≤ p i ∧ stepB σ p d i
      · rw [if_pos c] at hm
        have hi : i < σ 7 0 := by omega
        obtain ⟨k1, k2, k3, k4⟩ := (gF_mem hW f (d + 1) _ p' (by omega) (PO_pu hP hd hi c.1)).mp hm
        have pi : p' i = d := by
          have := k2 i (Or.inl (by rw [pu_s]; omega))
          rw [pu_s] at this; exact this
        have kp : ∀ a, (p a < d ∨ σ 7 0 ≤ a) → p' a = p a := by
          intro a ha
          have e : a ≠ i := by
            intro e; subst e; omega
          have := k2 a (by rw [pu_n e]; omega)
          rw [pu_n e] at this; exact this
        have ks : ∀ a, a < σ 7 0 → d ≤ p a → d ≤ p' a := by
          intro a ha q
          by_cases e : a = i
          · subst e; omega
          · have := k3 a ha (by rw [pu_n e]; have := hP.2.2.2 a ha q; omega)
            omega
        refine ⟨k1, kp, ks, fun b hb q => ?_⟩
        by_cases e : b = i
        · subst e
          rw [pi]
          refine stepB_c hW (fun a ha => ⟨⟨fun z => by rw [kp a (Or.inl z)]; exact z, fun z => ?_⟩, fun z => (kp a (Or.inl z)).symm⟩) hb c.2
          rcases Nat.lt_or_ge (p a) d with y | y
          · exact y
          · have := ks a ha y; omega
        · exact k4 b hb (by rw [pu_n e]; have := hP.2.2.2 b hb q; omega)
      · rw [if_neg c] at hm; cases hm
    · rintro ⟨k1, k2, k3, k4⟩
      obtain ⟨i, hi, pi⟩ := co_onto k1.1 k1.2 hd
      have ui : d ≤ p i := by
        rcases Nat.lt_or_ge (p i) d with z | z
        · have := k2 i (Or.inl z); omega
        · exact z
      have ag : AG σ p' p d := fun a ha => by
        rcases Nat.lt_or_ge (p a) d with y | y
        · have := k2 a (Or.inl y)
          rw [this]; exact ⟨Iff.rfl, fun _ => rfl⟩
        · have := k3 a ha y
          exact ⟨⟨fun z => by omega, fun z => by omega⟩, fun z => by omega⟩
      have st : stepB σ p d i := by
        have := k4 i hi ui
        rw [pi] at this
        exact stepB_c hW ag hi this
      refine ⟨i, Nat.zero_le _, by omega, ?_⟩
      rw [if_pos ⟨ui, st⟩]
      refine (gF_mem hW f (d + 1) _ p' (by omega) (PO_pu hP hd hi ui)).mpr ⟨k1, fun a ha => ?_, fun a ha q => ?_, fun b hb q => ?_⟩
      · by_cases e : a = i
        · rw [e, pu_s]; exact pi
        · rw [pu_n e] at ha ⊢
          rcases Nat.lt_or_ge a (σ 7 0) with y | y
          · exact k2 a (Or.inl (lowp a y (ha.resolve_right (by omega))))
          · exact k2 a (Or.inr y)
      · by_cases e : a = i
        · rw [e, pu_s] at q; omega
        · rw [pu_n e] at q
          have h1 := k3 a ha (by omega)
          have : p' a ≠ d := fun z => e (k1.2 a i ha hi (by rw [z, pi]))
          omega
      · by_cases e : b = i
        · rw [e, pu_s] at q; omega
        · rw [pu_n e] at q
          exact k4 b hb (by omega)
theorem PO_0 : PO σ 0 (fun _ => 99) ∨ 99 < σ 7 0 := by
  rcases Nat.lt_or_ge 99 (σ 7 0) with q | q
  · exact Or.inr q
  · exact Or.inl ⟨Nat.zero_le _, fun a b _ _ h => absurd h (Nat.not_lt_zero _), fun k hk => absurd hk (Nat.not_lt_zero _), fun a _ _ => q⟩
theorem ltOf_pu {d i : Nat} {p : Nat → Nat} (h : PO σ d p) (hd : d < σ 7 0) (hi : i < σ 7 0) (hp : d ≤ p i) (x : Nat) : ltOf σ (pu p i d) (d + 1) x = if wtK (σ 31 i) = true ∧ σ 32 i = x then i + 1 else ltOf σ p d x := by
  have low : ∀ a, a < σ 7 0 → a ≠ i → (pu p i d a < d + 1 ↔ p a < d) := by
    intro a ha e
    rw [pu_n e]
    constructor
    · intro q
      rcases Nat.lt_or_ge (p a) d with z | z
      · exact z
      · have := h.2.2.2 a ha z; omega
    · intro q; omega
  by_cases c : wtK (σ 31 i) = true ∧ σ 32 i = x
  · rw [if_pos c]
    refine amx_u hi (ltQ_t.mpr ⟨c.1, c.2, by rw [pu_s]; omega⟩) (fun w hw hq e => ?_)
    have := (low w hw e).mp (ltQ_t.mp hq).2.2
    rw [pu_s, pu_n e]; exact this
  · rw [if_neg c]
    refine (amx_c (σ 7 0) (fun w hw => ?_) (fun w hw hq => ?_)).1
    · rw [Bool.eq_iff_iff, ltQ_t, ltQ_t]
      by_cases e : w = i
      · subst e
        constructor
        · rintro ⟨q1, q2, -⟩; exact absurd ⟨q1, q2⟩ c
        · rintro ⟨q1, q2, -⟩; exact absurd ⟨q1, q2⟩ c
      · rw [low w hw e]
    · have e : w ≠ i := by
        intro e; subst e
        have := ltQ_t.mp hq
        exact c ⟨this.1, this.2.1⟩
      exact pu_n e
end GF
