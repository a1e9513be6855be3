/-! the class's search -/
noncomputable def ox (σ : AW) (p : Nat → Nat) : Int64 := outX (σ 24) (fun x => vl σ (ltOf σ p (σ 7 0) x))
noncomputable def insL (σ : AW) (l : List Int64) (xs : List (Nat → Nat)) : List Int64 := xs.foldl (fun l p => ins (ox σ p) l) l
theorem insL_app {σ : AW} {l : List Int64} {xs ys : List (Nat → Nat)} : insL σ l (xs ++ ys) = insL σ (insL σ l xs) ys := List.foldl_append
theorem insL_le {σ : AW} : ∀ (xs : List (Nat → Nat)) (l : List Int64), l.length ≤ (insL σ l xs).length
  | [], l => Nat.le_refl _
  | x :: xs, l => Nat.le_trans (ins_le (x := ox σ x) l).1 (insL_le xs (ins (ox σ x) l))
theorem insL_SL {σ : AW} : ∀ (xs : List (Nat → Nat)) (l : List Int64), SL l → SL (insL σ l xs)
  | [], l, h => h
  | x :: xs, l, h => insL_SL xs _ (SL_ins l h)
theorem insL_mem {σ : AW} {y : Int64} : ∀ (xs : List (Nat → Nat)) (l : List Int64), y ∈ insL σ l xs ↔ y ∈ l ∨ ∃ p, p ∈ xs ∧ y = ox σ p
  | [], l => by
    show y ∈ l ↔ _
    constructor
    · intro h; exact Or.inl h
    · rintro (h | ⟨p, h, -⟩)
      · exact h
      · cases h
  | x :: xs, l => by
    show y ∈ insL σ (ins (ox σ x) l) xs ↔ _
    rw [insL_mem xs, mem_ins]
    constructor
    · rintro ((h | h) | ⟨p, h1, h2⟩)
      · exact Or.inr ⟨x, List.mem_cons_self, h⟩
      · exact Or.inl h
      · exact Or.inr ⟨p, List.mem_cons_of_mem _ h1, h2⟩
    · rintro (h | ⟨p, h1, h2⟩)
      · exact Or.inl (Or.inr h)
      · rcases List.mem_cons.mp h1 with e | e
        · subst e; exact Or.inl (Or.inl h2)
        · exact Or.inr ⟨p, e, h2⟩
theorem pwF_k : ∀ f c k, k ≤ c * 2 ^ f → k ≤ pwF f c k
  | 0, c, k, h => by rw [pwF]; omega
  | f + 1, c, k, h => by
    rw [pwF]; split
    · assumption
    · refine pwF_k f (2 * c) k ?_
      rw [Nat.pow_succ, Nat.mul_comm (2 ^ f), ← Nat.mul_assoc, Nat.mul_comm c 2] at h
      exact h
theorem cp_k {n k : Nat} (h : k ≤ 65536) : k ≤ cp n k := by
  have : k ≤ pw k := pwF_k 10 64 k (by omega)
  unfold cp; omega
def KR (S : St) (l : List Int64) : Prop := S.1 17 0 = nI l.length ∧ RO (S.2.2 1) l ∧ SL l
def EP (σ : AW) (p : Nat → Nat) (d : Nat) (xs : List (Nat → Nat)) (l : List Int64) (S S' : St) : Prop :=
  (∀ v i, v ≠ 16 → v ≠ 17 → v ≠ 26 → v ≠ 27 → S'.1 v i = S.1 v i) ∧ S'.2.1 = S.2.1 ∧ S'.2.2 0 = S.2.2 0 ∧ S'.1 16 0 = (if xs.isEmpty then S.1 16 0 else 1) ∧ KR S' (insL σ l xs) ∧ (∀ a, a < σ 7 0 → p a < d → S'.1 26 a = S.1 26 a ∧ S'.1 27 a = S.1 27 a)
section SRC
variable {mo : Nat} {σ : AW}
theorem EP_nil {p : Nat → Nat} {d : Nat} {l : List Int64} {S : St} (h : KR S l) : EP σ p d [] l S S := ⟨fun _ _ _ _ _ _ => rfl, rfl, rfl, rfl, h, fun _ _ _ => ⟨rfl, rfl⟩⟩
theorem EP_tr {p : Nat → Nat} {d : Nat} {xs ys : List (Nat → Nat)} {l : List Int64} {S S1 S2 : St} (h1 : EP σ p d xs l S S1) (h2 : EP σ p d ys (insL σ l xs) S1 S2) : EP σ p d (xs ++ ys) l S S2 := by
  obtain ⟨a1, a2, a3, a4, a5, a6⟩ := h1
  obtain ⟨b1, b2, b3, b4, b5, b6⟩ := h2
  refine ⟨fun v i x1 x2 x3 x4 => by rw [b1 v i x1 x2 x3 x4, a1 v i x1 x2 x3 x4], by rw [b2, a2], by rw [b3, a3], ?_, by rw [insL_app]; exact b5, fun a x1 x2 => ?_⟩
  · rw [b4, a4]
    cases xs <;> cases ys <;> simp
  · rw [(b6 a x1 x2).1, (b6 a x1 x2).2]; exact a6 a x1 x2
theorem EP_DS {p : Nat → Nat} {d : Nat} {xs : List (Nat → Nat)} {l : List Int64} {S S' : St} (h : EP σ p d xs l S S') (hD : DS σ p d S) : DS σ p d S' := by
  obtain ⟨a1, a2, a3, a4, a5, a6⟩ := h
  have g : ∀ v i, v < 16 ∨ 27 < v → S'.1 v i = S.1 v i := fun v i hv => a1 v i (by omega) (by omega) (by omega) (by omega)
  obtain ⟨d1, d2, d3, d4⟩ := hD
  refine ⟨by rw [g 7 0 (by decide)]; exact d1, fun i hi => ?_, fun x hx => by rw [g 28 x (by decide)]; exact d3 x hx, fun a ha hp => ?_⟩
  · have := d2 i hi
    unfold AF at this ⊢
    simp only [g 30 i (by decide), g 31 i (by decide), g 32 i (by decide), g 33 i (by decide), g 34 i (by decide), g 35 i (by decide), g 36 i (by decide), g 37 i (by decide), g 38 i (by decide), g 39 i (by decide), g 40 i (by decide), g 41 i (by decide), g 42 i (by decide), g 43 i (by decide)]
    exact this
  · rw [(a6 a ha hp).1, (a6 a ha hp).2]; exact d4 a ha hp
theorem bm_pu {p : Nat → Nat} {d i : Nat} (hP : PO σ d p) (hd : d < σ 7 0) (hi : i < σ 7 0) (hp : d ≤ p i) : bm σ (pu p i d) (d + 1) = bm σ p d ||| 2 ^ i := by
  apply Nat.eq_of_testBit_eq
  intro a
  rw [Nat.testBit_or, Nat.testBit_two_pow, Bool.eq_iff_iff, Bool.or_eq_true, bm_t, bm_t, decide_eq_true_eq]
  by_cases e : a = i
  · subst e; rw [pu_s]
    exact ⟨fun _ => Or.inr rfl, fun _ => ⟨hi, by omega⟩⟩
  · rw [pu_n e]
    constructor
    · rintro ⟨h1, h2⟩
      left
      refine ⟨h1, ?_⟩
      rcases Nat.lt_or_ge (p a) d with z | z
      · exact z
      · have := hP.2.2.2 a h1 z; omega
    · rintro (⟨h1, h2⟩ | h)
      · exact ⟨h1, by omega⟩
      · exact absurd h.symm e
/-- the access is put: the child's state -/
theorem DS_pu {p : Nat → Nat} {d i : Nat} {S : St} (hW : WS mo σ) (hP : PO σ d p) (hd : d < σ 7 0) (hi : i < σ 7 0) (hp : d ≤ p i) (hD : DS σ p d S) (h27 : rdK (σ 31 i) = true → S.1 27 i = nI (srcB σ p d i) - 1) {S' : St}
    (hf : ∀ v j, v ≠ 26 → v ≠ 28 → S'.1 v j = S.1 v j) (h26 : ∀ a, S'.1 26 a = if a = i then nI d else S.1 26 a) (h28 : ∀ x, x < 3 → S'.1 28 x = if wtK (σ 31 i) = true ∧ σ 32 i = x then nI i else S.1 28 x) : DS σ (pu p i d) (d + 1) S' := by
  obtain ⟨d1, d2, d3, d4⟩ := hD
  refine ⟨by rw [hf 7 0 (by decide) (by decide)]; exact d1, fun j hj => ?_, fun x hx => ?_, fun a ha hpa => ?_⟩
  · have := d2 j hj
    unfold AF at this ⊢
    simp only [hf 30 j (by decide) (by decide), hf 31 j (by decide) (by decide), hf 32 j (by decide) (by decide), hf 33 j (by decide) (by decide), hf 34 j (by decide) (by decide), hf 35 j (by decide) (by decide), hf 36 j (by decide) (by decide), hf 37 j (by decide) (by decide), hf 38 j (by decide) (by decide), hf 39 j (by decide) (by decide), hf 40 j (by decide) (by decide), hf 41 j (by decide) (by decide), hf 42 j (by decide) (by decide), hf 43 j (by decide) (by decide)]
    exact this
  · rw [h28 x hx, ltOf_pu hP hd hi hp]
    split
    · rw [nI_pred]
    · exact d3 x hx
  · rw [h26, hf 27 a (by decide) (by decide)]
    by_cases e : a = i
    · subst e
      rw [if_pos rfl, pu_s]
      refine ⟨rfl, fun hr => ?_⟩
      have : sp σ (pu p a d) a = srcB σ p d a := by
        unfold sp; rw [pu_s]; exact (srcB_c hW (AG_pu hp) hi).symm
      rw [this]; exact h27 hr
    · rw [if_neg e]
      have hlow : p a < d := by
        rw [pu_n e] at hpa
        rcases Nat.lt_or_ge (p a) d with z | z
        · exact z
        · have := hP.2.2.2 a ha z; omega
      rw [← sp_c hW (AG_pu hp) ha hlow, pu_n e]
      exact d4 a ha hlow
set_option maxHeartbeats 4000000 in
theorem c_extend (hW : WS mo σ) : ∀ (f g d : Nat) (p : Nat → Nat) (l : List Int64) (n0 n2 : Nat) (S : St) (Q : St → Prop), f + d = σ 7 0 → f < g → PO σ d p → DS σ p d S → S.2.2 0 0 = lN (hN (σ 24) 16 0) → KR S l → IsC n0 → l.length ≤ n0 → (insL σ l (gF σ f d p)).length ≤ 65536 → n2 = cp n0 (insL σ l (gF σ f d p)).length → (∀ S', EP σ p d (gF σ f d p) l S S' → Q S') → pX2_extend g (nI (bm σ p d)) (nI d) n0 n2 S Q := by
  have h6 := hW.1.1
  intro f
  induction f with
  | zero =>
    intro g d p l n0 n2 S Q hf hg hP hD hR hK hc hl hle en hQ
    obtain ⟨g, rfl⟩ : ∃ m, g = m + 1 := ⟨g - 1, by omega⟩
    have hd : d = σ 7 0 := by omega
    subst hd
    refine ⟨fun z => by rw [hD.1, nI_ltI (by omega) (by omega)] at z; omega, fun _ S27 e27 => ?_⟩
    have hlt6 : ∀ x, ltOf σ p (σ 7 0) x ≤ 6 := by
      intro x
      by_cases z : ltOf σ p (σ 7 0) x = 0
      · omega
      · have := (ltOf_i z).2; omega
    have g1 : ∀ v j, v ≠ 16 → S27.1 v j = S.1 v j := fun v j hv => by rw [e27, wr_1, if_neg hv]
    refine c_locs (w := fun x => vl σ (ltOf σ p (σ 7 0) x)) (lt := fun x => ltOf σ p (σ 7 0) x) (fun x hx => ⟨?_, hlt6 x⟩) (fun x hx hne => ?_) (fun x hx h0 => ?_) ?_
    · rw [g1 28 x (by decide)]; exact hD.2.2.1 x hx
    · have hlt := (ltOf_i hne).1
      rw [g1 37 _ (by decide), (hD.2.1 _ hlt).2.2.2.2.2.2.2.1]
      have ev : vl σ (ltOf σ p (σ 7 0) x) = σ 37 (ltOf σ p (σ 7 0) x - 1) := by unfold vl; rw [if_neg hne]
      rw [ev]
      exact ⟨rfl, (hW.1.2.2.2 _ hlt).2.2.2.2.2.1⟩
    · show vl σ (ltOf σ p (σ 7 0) x) = 0
      unfold vl; rw [if_pos h0]
    · have hr27 : S27.2.2 0 0 = lN (hN (σ 24) 16 0) := by rw [e27]; exact hR
      rw [hr27, lN_add]
      have el : insL σ l (gF σ 0 (σ 7 0) p) = ins (ox σ p) l := rfl
      rw [el] at hle en
      refine ⟨n2, by rw [en]; exact cp_ge _ _, Nat.le_refl _, ?_⟩
      refine c_keep (x := ox σ p) (l := l) (by rw [g1 17 0 (by decide)]; exact hK.1) hc hl hle (by rw [e27]; exact hK.2.1) hK.2.2 en (fun S' k1 k2 k3 k4 k5 => ⟨rfl, hQ S' ?_⟩)
      refine ⟨fun v i x1 x2 x3 x4 => by rw [k1 v i x2, g1 v i x1], by rw [k2, e27]; rfl, by rw [k3, e27]; rfl, ?_, ⟨k4, k5, SL_ins l hK.2.2⟩, fun a x1 x2 => ⟨by rw [k1 26 a (by decide), g1 26 a (by decide)], by rw [k1 27 a (by decide), g1 27 a (by decide)]⟩⟩
      rw [k1 16 0 (by decide), e27]; simp [wr_1, gF]
  | succ f ih =>
    intro g d p l n0 n2 S Q hf hg hP hD hR hK hc hl hle en hQ
    obtain ⟨g, rfl⟩ : ∃ m, g = m + 1 := ⟨g - 1, by omega⟩
    have hd : d < σ 7 0 := by omega
    have hbl := bm_lt (p := p) (d := d) hW
    obtain ⟨G, eG⟩ : ∃ G : Nat → List (Nat → Nat), G = fun i => @ite _ (d ≤ p i ∧ stepB σ p d i) (Classical.propDecidable _) (gF σ f (d + 1) (pu p i d)) [] := ⟨_, rfl⟩
    have egF : gF σ (f + 1) d p = fm G 0 (σ 7 0) := by rw [gF, eG]
    rw [egF] at hle en hQ
    have loop : ∀ (c j : Nat) (l1 : List Int64) (n1 : Nat) (S1 : St) (xs : List (Nat → Nat)), j + c = σ 7 0 → EP σ p d xs l S S1 → l1 = insL σ l xs → IsC n1 → l1.length ≤ n1 → (insL σ l1 (fm G j c)).length ≤ 65536 → n2 = cp n1 (insL σ l1 (fm G j c)).length → (∀ S', EP σ p d (xs ++ fm G j c) l S S' → Q S') →
        itr (F := Int32 → Int32 → Int32 → Nat → St → Prop) (fun _ _ _ _ _ => False) (fun k42 x1 x2 x3 n S => bX2_extend_42 n2 (pX2_extend g) k42 Q x1 x2 x3 n S) (c + 1) (nI (bm σ p d)) (nI d) (nI j) n1 S1 := by
      intro c
      induction c with
      | zero =>
        intro j l1 n1 S1 xs hj hE el hc1 hl1 hle1 en1 hQ1
        have hD1 := EP_DS hE hD
        refine ⟨fun _ => ⟨?_, hQ1 S1 (by rw [fm, List.append_nil]; exact hE)⟩, fun z => absurd (by rw [hD1.1]; exact nI_le (by omega) (by omega)) z⟩
        rw [en1, fm]
        exact (cp_in hc1 hl1).symm
      | succ c ihc =>
        intro j l1 n1 S1 xs hj hE el hc1 hl1 hle1 en1 hQ1
        have hjn : j < σ 7 0 := by omega
        have hD1 := EP_DS hE hD
        have hK1 : KR S1 l1 := by rw [el]; exact hE.2.2.2.2.1
        have hR1 : S1.2.2 0 0 = lN (hN (σ 24) 16 0) := by rw [hE.2.2.1]; exact hR
        obtain ⟨a1, a2, a3, a4, a5, a6, a7, a8, a9, a10, a11, a12, a13, a14⟩ := hD1.2.1 j hjn
        obtain ⟨-, -, hi3, -, -, -, -, -, -, -, -, hi12, -⟩ := hW.1.2.2.2 j hjn
        have hin : vp_in (nI j) 6 := nu_in (by omega) (by decide)
        have hcl : (nI j).toNatClampNeg = j := nu_cl (by omega)
        rw [fm] at hle1 en1 hQ1
        -- this access is done: on to the next
        have nextG : ∀ (n' : Nat) (S2 : St), EP σ p d (G j) l1 S1 S2 → n' = cp n1 (insL σ l1 (G j)).length → bX2_extend_137 n2 (pX2_extend g) (itr (F := Int32 → Int32 → Int32 → Nat → St → Prop) (fun _ _ _ _ _ => False) (fun k42 x1 x2 x3 n S => bX2_extend_42 n2 (pX2_extend g) k42 Q x1 x2 x3 n S) (c + 1)) Q (nI (bm σ p d)) (nI d) (nI j) n' S2 := by
          intro n' S2 hE2 en' y1 e1
          rw [e1, nI_1]
          have hm1 := insL_le (σ := σ) (fm G (j + 1) c) (insL σ l1 (G j))
          rw [insL_app] at hle1 en1
          refine ihc (j + 1) (insL σ l1 (G j)) n' S2 (xs ++ G j) (by omega) (EP_tr hE (by rw [← el]; exact hE2)) (by rw [insL_app, el]) (by rw [en']; exact cp_C hc1) (by rw [en']; exact cp_k (by omega)) hle1 (by rw [en1, en', cp_cp hm1]) (fun S' hS' => hQ1 S' (by rw [← List.append_assoc]; exact hS'))
        have skip : ∀ (S2 : St), G j = [] → EP σ p d [] l1 S1 S2 → bX2_extend_137 n2 (pX2_extend g) (itr (F := Int32 → Int32 → Int32 → Nat → St → Prop) (fun _ _ _ _ _ => False) (fun k42 x1 x2 x3 n S => bX2_extend_42 n2 (pX2_extend g) k42 Q x1 x2 x3 n S) (c + 1)) Q (nI (bm σ p d)) (nI d) (nI j) n1 S2 := by
          intro S2 e0 hE2
          refine nextG n1 S2 (by rw [e0]; exact hE2) ?_
          rw [e0]
          exact (cp_in hc1 hl1).symm
        have Gno : ¬ (d ≤ p j ∧ stepB σ p d j) → G j = [] := by
          intro h; rw [eG]; exact if_neg h
        have k110 : d ≤ p j → (∀ a, (σ 43 j).testBit a = true → p a < d) → ∀ t2 : Int32, (rdK (σ 31 j) = true → t2 = nI (srcB σ p d j) - 1) → bX2_extend_110 n2 (pX2_extend g) (itr (F := Int32 → Int32 → Int32 → Nat → St → Prop) (fun _ _ _ _ _ => False) (fun k42 x1 x2 x3 n S => bX2_extend_42 n2 (pX2_extend g) k42 Q x1 x2 x3 n S) (c + 1)) Q (nI (bm σ p d)) (nI d) (nI j) j (nI j) t2 n1 S1 := by
          intro hpj h1 t2 ht2
          refine ⟨hin, fun S2 e2 => ?_⟩
          rw [hcl] at e2
          have hE2 : EP σ p d [] l1 S1 S2 := by
            rw [e2]
            refine ⟨fun v i x1 x2 x3 x4 => by rw [wr_1, if_neg x4], rfl, rfl, by simp [wr_1], ⟨by rw [wr_1, if_neg (by decide)]; exact hK1.1, hK1.2.1, hK1.2.2⟩, fun a x1 x2 => ⟨by simp [wr_1], ?_⟩⟩
            have : a ≠ j := fun e => by subst e; omega
            simp [wr_1, this]
          have hD2 := EP_DS hE2 hD1
          have h27 : rdK (σ 31 j) = true → S2.1 27 j = nI (srcB σ p d j) - 1 := fun hr => by rw [e2, wr_1, if_pos rfl, if_pos rfl]; exact ht2 hr
          refine c_may hW hD2 hjn h27 (fun c2 => ⟨fun q => absurd q (by decide), fun _ => ?_⟩) (fun c2 => ⟨fun _ => skip S2 (Gno (fun q => c2 q.2.2.1)) hE2, fun q => absurd rfl q⟩)
          refine c_atom hW hD2 hjn h1 (by omega) (fun c3 => ⟨fun q => absurd q (by decide), fun _ => ?_⟩) (fun c3 => ⟨fun _ => skip S2 (Gno (fun q => c3 q.2.2.2)) hE2, fun q => absurd rfl q⟩)
          have Gyes : G j = gF σ f (d + 1) (pu p j d) := by rw [eG]; exact if_pos ⟨hpj, h1, c2, c3⟩
          have hm1 := insL_le (σ := σ) (fm G (j + 1) c) (insL σ l1 (G j))
          have hle2 : (insL σ l1 (G j)).length ≤ 65536 := by rw [insL_app] at hle1; omega
          refine ⟨cp n1 (insL σ l1 (G j)).length, cp_ge _ _, by rw [en1, insL_app]; exact cp_mono hm1, ?_⟩
          -- place
          refine ⟨hin, fun i8 e8 y9 e9 => ?_⟩
          rw [hcl] at e8
          subst e8
          have c32 : S2.1 32 i8 = nI (σ 32 i8) := (hD2.2.1 i8 hjn).2.2.1
          have c35 : S2.1 35 i8 = nI (b2n (wtK (σ 31 i8))) := (hD2.2.1 i8 hjn).2.2.2.2.2.1
          rw [c32] at e9
          subst e9
          have h3 : vp_in (nI (σ 32 i8)) 3 := nu_in hi3 (by decide)
          have hcl3 : (nI (σ 32 i8)).toNatClampNeg = σ 32 i8 := nu_cl (by omega)
          rw [hcl, hcl3]
          refine ⟨h3, fun y11 e11 => ⟨hin, fun S12 e12 => ⟨hin, fun i15 e15 => ?_⟩⟩⟩
          rw [hcl] at e15
          subst e15
          -- the call
          have call : ∀ S16 : St, (∀ v x, v ≠ 26 → v ≠ 28 → S16.1 v x = S2.1 v x) → S16.2 = S2.2 → (∀ a, S16.1 26 a = if a = i15 then nI d else S2.1 26 a) → (∀ x, S16.1 28 x = if wtK (σ 31 i15) = true ∧ x = σ 32 i15 then nI i15 else S2.1 28 x) → bX2_place_51 (cp n1 (insL σ l1 (G i15)).length) (pX2_extend g) (fun (S9 : St) => bX2_extend_137 n2 (pX2_extend g) (itr (F := Int32 → Int32 → Int32 → Nat → St → Prop) (fun _ _ _ _ _ => False) (fun k42 x1 x2 x3 n S => bX2_extend_42 n2 (pX2_extend g) k42 Q x1 x2 x3 n S) (c + 1)) Q (nI (bm σ p d)) (nI d) (nI i15) (cp n1 (insL σ l1 (G i15)).length) S9) (nI i15) (nI (bm σ p d)) (nI d) (nI (σ 32 i15)) y11 n1 S16 := by
            intro S16 q1 q2 q3 q4
            refine ⟨cp n1 (insL σ l1 (G i15)).length, cp_ge _ _, Nat.le_refl _, ?_⟩
            rw [nu_sh _ (by omega), nu_or, nI_1, ← bm_pu hP hd hjn hpj]
            have hD16 : DS σ (pu p i15 d) (d + 1) S16 := DS_pu hW hP hd hjn hpj hD2 h27 q1 q3 (fun x hx => by
              rw [q4 x]
              by_cases z : wtK (σ 31 i15) = true ∧ σ 32 i15 = x
              · rw [if_pos z, if_pos ⟨z.1, z.2.symm⟩]
              · rw [if_neg z, if_neg (fun y => z ⟨y.1, y.2.symm⟩)])
            have hK16 : KR S16 l1 := by
              refine ⟨?_, ?_, hK1.2.2⟩
              · rw [q1 17 0 (by decide) (by decide)]; exact hE2.2.2.2.2.1.1
              · rw [q2]; exact hE2.2.2.2.2.1.2.1
            rw [Gyes] at hle2 ⊢
            refine ih g (d + 1) (pu p i15 d) l1 n1 _ S16 _ (by omega) (by omega) (PO_pu hP hd hjn hpj) hD16 (by rw [q2, hE2.2.2.1]; exact hR1) hK16 hc1 hl1 hle2 rfl (fun S3 hE3 => ⟨h3, fun S5 e5 => ⟨rfl, ?_⟩⟩)
            rw [hcl3] at e5
            rw [← Gyes]
            refine nextG _ S5 ?_ rfl
            rw [Gyes]
            obtain ⟨b1, b2, b3, b4, b5, b6⟩ := hE3
            obtain ⟨t1, t2', t3, t4, t5, t6⟩ := hE2
            rw [e5]
            refine ⟨fun v x x1 x2 x3 x4 => ?_, by rw [wr_2, b2, q2, t2'], by rw [wr_2, b3, q2, t3], ?_, ⟨?_, by rw [wr_2]; exact b5.2.1, b5.2.2⟩, fun a x1 x2 => ?_⟩
            · rw [wr_1]
              by_cases v28 : v = 28
              · subst v28
                rw [if_pos rfl]
                by_cases z : x = σ 32 i15
                · rw [if_pos z, e11, z, t1 28 _ x1 x2 x3 x4]
                · rw [if_neg z, b1 28 x x1 x2 x3 x4, q4 x, if_neg (fun y => z y.2), t1 28 _ x1 x2 x3 x4]
              · rw [if_neg v28, b1 v x x1 x2 x3 x4, q1 v x x3 v28, t1 v x x1 x2 x3 x4]
            · rw [wr_1, if_neg (by decide), b4, q1 16 0 (by decide) (by decide), t4]; rfl
            · rw [wr_1, if_neg (by decide)]; exact b5.1
            · have hne : a ≠ i15 := fun e => by subst e; omega
              have hb := b6 a x1 (by rw [pu_n hne]; omega)
              have ht := t6 a x1 x2
              rw [wr_1, if_neg (by decide), wr_1, if_neg (by decide), hb.1, hb.2, q3, if_neg hne, q1 27 a (by decide) (by decide)]
              exact ht
          have d35 : S12.1 35 i15 = nI (b2n (wtK (σ 31 i15))) := by rw [e12, wr_1, if_neg (by decide)]; exact c35
          rw [d35, zI_n]
          refine ⟨fun z => call S12 (fun v x x1 x2 => by rw [e12, wr_1, if_neg x1]) (by rw [e12]; rfl) (fun a => by rw [e12, wr_1, if_pos rfl]) (fun x => ?_), fun z => ⟨h3, fun S16 e16 => ?_⟩⟩
          · have hwf := (zI_0 _).mp z
            rw [e12, wr_1, if_neg (by decide), if_neg (fun y => by rw [hwf] at y; exact absurd y.1 (by decide))]
          · have hwt := (zI_1 _).mp z
            refine call S16 (fun v x x1 x2 => by rw [e16, wr_1, if_neg x2, e12, wr_1, if_neg x1]) (by rw [e16, e12]; rfl) (fun a => by rw [e16, wr_1, if_neg (by decide), e12, wr_1, if_pos rfl]) (fun x => ?_)
            rw [e16, wr_1, if_pos rfl]
            by_cases z2 : x = σ 32 i15
            · rw [if_pos z2, if_pos ⟨hwt, z2⟩]
            · rw [if_neg z2, if_neg (fun y => z2 y.2), e12, wr_1, if_neg (by decide)]
        refine ⟨fun z => by rw [hD1.1, nI_leI (by omega) (by omega)] at z; omega, fun _ => ⟨hin, fun i17 e17 => ?_⟩⟩
        rw [hcl] at e17
        subst e17
        refine c_isIn hbl (by omega) ⟨fun w => ?_, fun w => ?_⟩
        · have := (bm_t.mp ((zI_1 _).mp w)).2
          exact skip S1 (Gno (fun q => by have := q.1; omega)) (EP_nil hK1)
        · have hpj : d ≤ p i17 := by
            rcases Nat.lt_or_ge (p i17) d with z | z
            · have := bm_t.mpr ⟨hjn, z⟩
              rw [this] at w; exact absurd w (by decide)
            · exact z
          rw [a14, a5, zI_n]
          have e3 : ((nI (σ 43 i17) &&& (nI (bm σ p d) ^^^ (-1 : Int32))) = 0 ↔ ∀ a, (σ 43 i17).testBit a = true → p a < d) := by
            rw [nu_sub _ hi12 _ hbl, and_sub]
            constructor
            · intro h a ha; exact (bm_t.mp (h a ha)).2
            · intro h a ha
              have := (((hW.2.1 _ hjn).1 a).mp ha).1
              exact bm_t.mpr ⟨by omega, h a ha⟩
          refine ⟨fun z => ⟨fun z2 => ?_, fun z2 => ?_⟩, fun z => skip S1 (Gno (fun q => z (e3.mpr q.2.1))) (EP_nil hK1)⟩
          · exact k110 hpj (e3.mp z) _ (fun hr => by rw [hr] at z2; exact absurd z2 (by decide))
          · exact c_src hW hD1 hjn (k110 hpj (e3.mp z) _ (fun _ => rfl))
    refine ⟨fun _ => ⟨σ 7 0 + 1, ?_⟩, fun z => absurd (by rw [hD.1]; exact nI_lt (by omega) (by omega)) z⟩
    exact loop (σ 7 0) 0 l n0 S [] (by omega) (EP_nil hK) rfl hc hl hle en hQ
end SRC
