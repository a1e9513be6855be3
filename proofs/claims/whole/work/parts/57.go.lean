/-! the reference goes through all orders: the same outcomes as the class's search -/
def fi : List Nat → Nat → Nat
  | [], _ => 0
  | x :: t, a => if x = a then 0 else fi t a + 1
theorem fi_g : ∀ (l : List Nat) (k : Nat), l.Nodup → k < l.length → fi l (l.getD k 0) = k
  | [], k, _, h => absurd h (Nat.not_lt_zero _)
  | x :: t, 0, _, _ => by show fi (x :: t) x = 0; rw [fi, if_pos rfl]
  | x :: t, k + 1, hn, h => by
    obtain ⟨n1, n2⟩ := List.nodup_cons.mp hn
    have hk : k < t.length := by rw [List.length_cons] at h; omega
    show fi (x :: t) (t.getD k 0) = k + 1
    have : t.getD k 0 ∈ t := by
      rw [List.getD_eq_getElem?_getD, List.getElem?_eq_getElem hk]
      exact List.getElem_mem hk
    rw [fi, if_neg (fun e => n1 (by rw [e]; exact this)), fi_g t k n2 hk]
theorem fi_lt : ∀ (l : List Nat) (a : Nat), a ∈ l → fi l a < l.length ∧ l.getD (fi l a) 0 = a
  | [], a, h => by cases h
  | x :: t, a, h => by
    rw [fi]
    by_cases e : x = a
    · rw [if_pos e]; exact ⟨by rw [List.length_cons]; omega, e⟩
    · rw [if_neg e]
      rcases List.mem_cons.mp h with q | q
      · exact absurd q.symm e
      · obtain ⟨h1, h2⟩ := fi_lt t a q
        exact ⟨by rw [List.length_cons]; omega, h2⟩
def pl (l : List Nat) (a : Nat) : Nat := if a < l.length then fi l a else 99
theorem getD_mem {l : List Nat} {k : Nat} (hk : k < l.length) : l.getD k 0 ∈ l := by
  rw [List.getD_eq_getElem?_getD, List.getElem?_eq_getElem hk]
  exact List.getElem_mem hk
theorem sq_all {n : Nat} {l : List Nat} (h : l ∈ sq n) : ∀ a, a < n → a ∈ l := by
  obtain ⟨h1, h2, h3⟩ := sq_mem.mp h
  intro a ha
  obtain ⟨i, i1, i2⟩ := co_onto (p := fun k => l.getD k 0) (fun k hk => h3 _ (getD_mem (by omega))) (fun i j hi hj e => by
    have e : l.getD i 0 = l.getD j 0 := e
    have := fi_g l i h2 (by omega)
    rw [e, fi_g l j h2 (by omega)] at this
    exact this.symm) ha
  have i2 : l.getD i 0 = a := i2
  rw [← i2]; exact getD_mem (by omega)
theorem pl_co {σ : AW} {l : List Nat} (h : l ∈ sq (σ 7 0)) : CO σ (pl l) ∧ (∀ a, σ 7 0 ≤ a → pl l a = 99) := by
  obtain ⟨h1, h2, h3⟩ := sq_mem.mp h
  have ep : ∀ a, a < σ 7 0 → pl l a = fi l a := fun a ha => by unfold pl; rw [if_pos (by omega)]
  refine ⟨⟨fun a ha => ?_, fun a b ha hb e => ?_⟩, fun a ha => by unfold pl; rw [if_neg (by omega)]⟩
  · rw [ep a ha]; have := (fi_lt l a (sq_all h a ha)).1; omega
  · rw [ep a ha, ep b hb] at e
    rw [← (fi_lt l a (sq_all h a ha)).2, ← (fi_lt l b (sq_all h b hb)).2, e]
theorem pl_ex {σ : AW} {p : Nat → Nat} (hC : CO σ p) (h9 : ∀ a, σ 7 0 ≤ a → p a = 99) : ∃ l, l ∈ sq (σ 7 0) ∧ pl l = p := by
  obtain ⟨q, hq⟩ : ∃ q : Nat → Nat, ∀ d, d < σ 7 0 → q d < σ 7 0 ∧ p (q d) = d := ⟨fun d => if hd : d < σ 7 0 then Classical.choose (co_onto hC.1 hC.2 hd) else 0, fun d hd => by dsimp only; rw [dif_pos hd]; exact Classical.choose_spec (co_onto hC.1 hC.2 hd)⟩
  have hl : ((List.range (σ 7 0)).map q).length = σ 7 0 := by rw [List.length_map, List.length_range]
  have hg : ∀ d, d < σ 7 0 → ((List.range (σ 7 0)).map q).getD d 0 = q d := by
    intro d hd
    rw [List.getD_eq_getElem?_getD, List.getElem?_map, List.getElem?_range hd]; rfl
  have nd : ((List.range (σ 7 0)).map q).Nodup := by
    show List.Pairwise _ _
    rw [List.pairwise_map]
    refine List.Pairwise.imp_of_mem (fun {a b} ha hb hne e => ?_) (List.nodup_range : (List.range (σ 7 0)).Nodup)
    have a1 := (hq a (List.mem_range.mp ha)).2
    have b1 := (hq b (List.mem_range.mp hb)).2
    rw [e, b1] at a1
    exact hne a1.symm
  refine ⟨(List.range (σ 7 0)).map q, sq_mem.mpr ⟨hl, nd, fun x hx => ?_⟩, ?_⟩
  · obtain ⟨d, d1, d2⟩ := List.mem_map.mp hx
    rw [← d2]; exact (hq d (List.mem_range.mp d1)).1
  · funext a
    unfold pl
    rw [hl]
    rcases Nat.lt_or_ge a (σ 7 0) with ha | ha
    · rw [if_pos ha]
      have hp := hC.1 a ha
      have e : q (p a) = a := hC.2 _ _ (hq _ hp).1 ha (hq _ hp).2
      have := fi_g _ (p a) nd (by rw [hl]; exact hp)
      rw [hg _ hp, e] at this
      exact this
    · rw [if_neg (by omega), h9 a ha]
noncomputable def rs (σ : AW) : List (List Nat) → List (Nat → Nat)
  | [] => []
  | l :: t => @ite _ (isOrd σ (pl l)) (Classical.propDecidable _) (pl l :: rs σ t) (rs σ t)
theorem rs_mem {σ : AW} {p : Nat → Nat} : ∀ (ls : List (List Nat)), p ∈ rs σ ls ↔ ∃ l, l ∈ ls ∧ pl l = p ∧ isOrd σ p
  | [] => by
    rw [rs]
    constructor
    · intro h; cases h
    · rintro ⟨l, h, -⟩; cases h
  | l :: t => by
    rw [rs]
    by_cases c : isOrd σ (pl l)
    · rw [if_pos c, List.mem_cons, rs_mem t]
      constructor
      · rintro (h | ⟨m, h1, h2⟩)
        · exact ⟨l, List.mem_cons_self, h.symm, by rw [h]; exact c⟩
        · exact ⟨m, List.mem_cons_of_mem _ h1, h2⟩
      · rintro ⟨m, h1, h2, h3⟩
        rcases List.mem_cons.mp h1 with rfl | h1
        · exact Or.inl h2.symm
        · exact Or.inr ⟨m, h1, h2, h3⟩
    · rw [if_neg c, rs_mem t]
      constructor
      · rintro ⟨m, h1, h2⟩; exact ⟨m, List.mem_cons_of_mem _ h1, h2⟩
      · rintro ⟨m, h1, h2, h3⟩
        rcases List.mem_cons.mp h1 with rfl | h1
        · rw [h2] at c; exact absurd h3 c
        · exact ⟨m, h1, h2, h3⟩
noncomputable def RS (σ : AW) : List (Nat → Nat) := rs σ (sq (σ 7 0))
theorem RS_mem {σ : AW} {p : Nat → Nat} : p ∈ RS σ ↔ CO σ p ∧ (∀ a, σ 7 0 ≤ a → p a = 99) ∧ isOrd σ p := by
  unfold RS
  rw [rs_mem]
  constructor
  · rintro ⟨l, h1, h2, h3⟩
    subst h2
    exact ⟨(pl_co h1).1, (pl_co h1).2, h3⟩
  · rintro ⟨h1, h2, h3⟩
    obtain ⟨l, l1, l2⟩ := pl_ex h1 h2
    exact ⟨l, l1, l2, h3⟩
theorem same_out {mo : Nat} {σ : AW} (hW : WS mo σ) {l : List Int64} (hl : SL l) : insL σ l (RS σ) = insL σ l (XS σ) ∧ (RS σ).isEmpty = (XS σ).isEmpty := by
  have hm : ∀ p, p ∈ RS σ ↔ p ∈ XS σ := fun p => by rw [RS_mem, XS_mem hW]
  refine ⟨SL_ext _ _ (insL_SL _ _ hl) (insL_SL _ _ hl) (fun x => ?_), ?_⟩
  · rw [insL_mem, insL_mem]
    constructor
    · rintro (h | ⟨p, h1, h2⟩)
      · exact Or.inl h
      · exact Or.inr ⟨p, (hm p).mp h1, h2⟩
    · rintro (h | ⟨p, h1, h2⟩)
      · exact Or.inl h
      · exact Or.inr ⟨p, (hm p).mpr h1, h2⟩
  · cases e1 : RS σ with
    | nil =>
      cases e2 : XS σ with
      | nil => rfl
      | cons p t =>
        have : p ∈ RS σ := (hm p).mpr (by rw [e2]; exact List.mem_cons_self)
        rw [e1] at this; cases this
    | cons p t =>
      cases e2 : XS σ with
      | nil =>
        have : p ∈ XS σ := (hm p).mp (by rw [e1]; exact List.mem_cons_self)
        rw [e2] at this; cases this
      | cons p' t' => rfl
/-- the reference's row of outcomes -/
def KM (T : St) (l : List Int64) : Prop := T.1 5 0 = nI l.length ∧ RO (T.2.2 0) l ∧ SL l
def uG (v : Nat) : Prop := v ≠ 5 ∧ v ≠ 29 ∧ v ≠ 30 ∧ v ≠ 31 ∧ v ≠ 32
theorem m_goThrough {mo : Nat} {σ : AW} {T : St} {L : List Int64} {Q : Int32 → St → Prop} (hW : WS mo σ) (hmo : mo < 3) (hS : FS σ) (h13 : T.1 13 0 = nI (σ 7 0)) (hF : ∀ i, i < σ 7 0 → MF σ T i) (hE : MFE σ T) (h0 : T.1 0 0 = nI mo) (hr : ∀ k, k < 16 → T.1 11 k = nI (σ 24 k)) (hK : KM T L) (hle : (insL σ L (RS σ)).length ≤ 40000)
    (hQ : ∀ T', (∀ v i, uG v → T'.1 v i = T.1 v i) → T'.2.1 = T.2.1 → KM T' (insL σ L (RS σ)) → Q (zI (!(RS σ).isEmpty)) T') : pX7_goThrough T Q := by
  have h6 := hW.1.1
  refine m_findMust hW hmo hS h13 hF hE h0 (fun T0 f1 f2 f3 => ?_)
  -- what stays of T0
  have stay : ∀ T1 : St, (∀ v i, v ≠ 5 → v ≠ 30 → v ≠ 31 → v ≠ 32 → T1.1 v i = T0.1 v i) → T1.1 13 0 = nI (σ 7 0) ∧ (∀ i, i < σ 7 0 → MF σ T1 i) ∧ (∀ k, k < 16 → T1.1 11 k = nI (σ 24 k)) ∧ (∀ a b, a < σ 7 0 → b < σ 7 0 → T1.1 29 (6 * a + b) = zI ((σ 43 b).testBit a)) := by
    intro T1 g
    have g' : ∀ v i, v ≠ 5 → v ≠ 29 → v ≠ 30 → v ≠ 31 → v ≠ 32 → T1.1 v i = T.1 v i := fun v i a b c d e => by rw [g v i a c d e, f1 v i b]
    refine ⟨by rw [g' _ _ (by decide) (by decide) (by decide) (by decide) (by decide)]; exact h13, fun i hi => ?_, fun k hk => by rw [g' _ _ (by decide) (by decide) (by decide) (by decide) (by decide)]; exact hr k hk, fun a b ha hb => by rw [g _ _ (by decide) (by decide) (by decide) (by decide)]; exact f3 a b ha hb⟩
    have := hF i hi
    unfold MF at this ⊢
    simp only [g' 14 i (by decide) (by decide) (by decide) (by decide) (by decide), g' 15 i (by decide) (by decide) (by decide) (by decide) (by decide), g' 16 i (by decide) (by decide) (by decide) (by decide) (by decide), g' 17 i (by decide) (by decide) (by decide) (by decide) (by decide), g' 18 i (by decide) (by decide) (by decide) (by decide) (by decide), g' 19 i (by decide) (by decide) (by decide) (by decide) (by decide), g' 20 i (by decide) (by decide) (by decide) (by decide) (by decide), g' 21 i (by decide) (by decide) (by decide) (by decide) (by decide), g' 22 i (by decide) (by decide) (by decide) (by decide) (by decide), g' 23 i (by decide) (by decide) (by decide) (by decide) (by decide)]
    exact this
  have fin : ∀ T1 : St, (∀ v i, v ≠ 5 → v ≠ 30 → v ≠ 31 → v ≠ 32 → T1.1 v i = T0.1 v i) → T1.2.1 = T0.2.1 → KM T1 (insL σ L (RS σ)) → Q (zI (!(RS σ).isEmpty)) T1 := by
    intro T1 g1 g2 g3
    exact hQ T1 (fun v i hv => by rw [g1 v i hv.1 hv.2.2.1 hv.2.2.2.1 hv.2.2.2.2, f1 v i hv.2.1]) (by rw [g2, f2]) g3
  -- one order
  have one : ∀ (k31 : Int32 → Int32 → St → Prop) (l : List Nat) (B : Bool) (L1 : List Int64) (T1 : St), l ∈ sq (σ 7 0) → (∀ v i, v ≠ 5 → v ≠ 30 → v ≠ 31 → v ≠ 32 → T1.1 v i = T0.1 v i) → T1.2.1 = T0.2.1 → OD l T1 → KM T1 L1 → (insL σ L1 (rs σ [l])).length ≤ 40000 →
      (∀ T2, (∀ v i, v ≠ 5 → v ≠ 30 → v ≠ 31 → v ≠ 32 → T2.1 v i = T0.1 v i) → T2.2.1 = T0.2.1 → OD l T2 → KM T2 (insL σ L1 (rs σ [l])) → bX7_goThrough_80 k31 Q (zI (B || !(rs σ [l]).isEmpty)) T2) → ∃ N : Nat, itr (F := Int32 → Int32 → St → Prop) (fun _ _ _ => False) (fun k37 x1 x3 S => bX7_goThrough_37 k31 k37 Q x1 x3 S) N (zI B) (0 : Int32) T1 := by
    intro k31 l B L1 T1 hl g1 g2 hO hK1 hle1 hk
    obtain ⟨l1, l2, l3⟩ := sq_mem.mp hl
    have gd : ∀ k, k < σ 7 0 → l.getD k 0 < σ 7 0 := fun k hk => l3 _ (getD_mem (by omega))
    have loop : ∀ (d k : Nat) (T2 : St), k + d = σ 7 0 → (∀ v i, v ≠ 31 → T2.1 v i = T1.1 v i) → T2.2 = T1.2 → (∀ j, j < k → T2.1 31 (l.getD j 0) = nI j) → itr (F := Int32 → Int32 → St → Prop) (fun _ _ _ => False) (fun k37 x1 x3 S => bX7_goThrough_37 k31 k37 Q x1 x3 S) (d + 1) (zI B) (nI k) T2 := by
      intro d
      induction d with
      | zero =>
        intro k T2 hk2 e1 e2 e3
        have : k = σ 7 0 := by omega
        subst this
        have gg : ∀ v i, v ≠ 5 → v ≠ 30 → v ≠ 31 → v ≠ 32 → T2.1 v i = T0.1 v i := fun v i a b c d => by rw [e1 v i c, g1 v i a b c d]
        obtain ⟨s13, sF, sr, s29⟩ := stay T2 gg
        have hC := (pl_co hl).1
        have hM : MP σ (pl l) T2 := by
          refine ⟨s13, sF, fun a ha => ?_⟩
          obtain ⟨q1, q2⟩ := fi_lt l a (sq_all hl a ha)
          have := e3 (fi l a) (by omega)
          rw [q2] at this
          rw [this]; unfold pl; rw [if_pos (by omega)]
        have o2 : OD l T2 := ⟨by rw [e1 _ _ (by decide)]; exact hO.1, fun i hi => by rw [e1 _ _ (by decide)]; exact hO.2 i hi⟩
        have k2 : KM T2 L1 := ⟨by rw [e1 _ _ (by decide)]; exact hK1.1, by rw [e2]; exact hK1.2.1, hK1.2.2⟩
        refine ⟨fun _ => ?_, fun z => absurd (by rw [s13]; exact nI_le (by omega) (by omega)) z⟩
        refine m_isOrder hW hC hM s29 (fun ho T3 p1 p2 => ⟨fun y => absurd y (by decide), fun _ => ?_⟩) (fun ho T3 p1 p2 => ⟨fun _ => ?_, fun y => absurd rfl y⟩)
        · have gg3 : ∀ v i, v ≠ 5 → v ≠ 30 → v ≠ 31 → v ≠ 32 → T3.1 v i = T0.1 v i := fun v i a b c d => by rw [p1 v i d, gg v i a b c d]
          obtain ⟨u13, uF, ur, -⟩ := stay T3 gg3
          have er : rs σ [l] = [pl l] := by rw [rs, rs, if_pos ho]
          rw [er] at hk hle1
          have ei : insL σ L1 [pl l] = ins (ox σ (pl l)) L1 := rfl
          rw [ei] at hk hle1
          refine m_reckon hW hC u13 uF ur (fun i hi => by rw [p1 _ _ (by decide)]; exact hM.2.2 i hi) ?_
          refine m_keep (l := L1) (by rw [p1 _ _ (by decide)]; exact k2.1) hle1 (by rw [p2]; exact k2.2.1) k2.2.2 (fun T5 w1 w2 w3 w4 => ?_)
          have := hk T5 (fun v i a b c d => by rw [w1 v i a, gg3 v i a b c d]) (by rw [w2, p2, e2, g2]) ⟨by rw [w1 _ _ (by decide), p1 _ _ (by decide)]; exact o2.1, fun i hi => by rw [w1 _ _ (by decide), p1 _ _ (by decide)]; exact o2.2 i hi⟩ ⟨w3, w4, SL_ins _ k2.2.2⟩
          have eb : (B || !([pl l] : List (Nat → Nat)).isEmpty) = true := by cases B <;> rfl
          rw [eb] at this
          exact this
        · have er : rs σ [l] = [] := by rw [rs, rs, if_neg ho]
          rw [er] at hk
          have eb : (B || !([] : List (Nat → Nat)).isEmpty) = B := by cases B <;> rfl
          rw [eb] at hk
          exact hk T3 (fun v i a b c d => by rw [p1 v i d, gg v i a b c d]) (by rw [p2, e2, g2]) ⟨by rw [p1 _ _ (by decide)]; exact o2.1, fun i hi => by rw [p1 _ _ (by decide)]; exact o2.2 i hi⟩ ⟨by rw [p1 _ _ (by decide)]; exact k2.1, by rw [p2]; exact k2.2.1, k2.2.2⟩
      | succ d ih =>
        intro k T2 hk2 e1 e2 e3
        have hkn : k < σ 7 0 := by omega
        have hg := gd k hkn
        have t13 : T2.1 13 0 = nI (σ 7 0) := by rw [e1 _ _ (by decide), hO.1, l1]
        refine ⟨fun z => by rw [t13, nI_leI (by omega) (by omega)] at z; omega, fun _ => ⟨nu_in (by omega) (by decide), ?_⟩⟩
        rw [nu_cl (by omega), e1 30 k (by decide), hO.2 k (by omega), nu_cl (by omega)]
        refine ⟨nu_in (by omega) (by decide), fun T3 e4 y12 e12 => ?_⟩
        rw [e12, nI_1]
        refine ih (k + 1) T3 (by omega) (fun v i hv => by rw [e4, wr_1, if_neg hv]; exact e1 v i hv) (by rw [e4]; exact e2) (fun j hj => ?_)
        rw [e4, wr_1, if_pos rfl]
        by_cases z : j = k
        · subst z; rw [if_pos rfl]
        · rw [if_neg (fun q => z (by
            have := fi_g l j l2 (by omega)
            rw [q, fi_g l k l2 (by omega)] at this
            exact this.symm))]
          exact e3 j (by omega)
    exact ⟨σ 7 0 + 1, loop (σ 7 0) 0 T1 (by omega) (fun _ _ _ => rfl) rfl (fun j h => absurd h (Nat.not_lt_zero _))⟩
  have bl : ∀ l, l ∈ sq (σ 7 0) → l.length ≤ 6 ∧ BL l := by
    intro l hl
    obtain ⟨l1, l2, l3⟩ := sq_mem.mp hl
    refine ⟨by omega, fun i => ?_⟩
    rcases Nat.lt_or_ge i l.length with q | q
    · have := l3 _ (getD_mem q); omega
    · rw [List.getD_eq_getElem?_getD, List.getElem?_eq_none q]; decide
  have rsc : ∀ (l : List Nat) (t : List (List Nat)), rs σ (l :: t) = rs σ [l] ++ rs σ t := by
    intro l t
    rw [rs, rs, rs]
    by_cases c : isOrd σ (pl l)
    · rw [if_pos c, if_pos c]; rfl
    · rw [if_neg c, if_neg c]; rfl
  -- all orders, one after another
  have seq : ∀ (ls : List (List Nat)) (l : List Nat) (B : Bool) (L1 : List Int64) (T1 : St), chn (l :: ls) = true → (∀ m, m ∈ l :: ls → m ∈ sq (σ 7 0)) → (∀ v i, v ≠ 5 → v ≠ 30 → v ≠ 31 → v ≠ 32 → T1.1 v i = T0.1 v i) → T1.2.1 = T0.2.1 → OD l T1 → KM T1 L1 → insL σ L1 (rs σ (l :: ls)) = insL σ L (RS σ) → (B || !(rs σ (l :: ls)).isEmpty) = !(RS σ).isEmpty → itr (F := Int32 → Int32 → St → Prop) (fun _ _ _ => False) (fun k31 x1 x2 S => bX7_goThrough_31 k31 Q x1 x2 S) (ls.length + 2) (zI B) (1 : Int32) T1 := by
    intro ls
    induction ls with
    | nil =>
      intro l B L1 T1 hch hin g1 g2 hO hK1 eL eB
      have hl := hin l List.mem_cons_self
      have hn : nxtL l = none := by rw [chn] at hch; exact eq_of_beq hch
      refine ⟨fun z => absurd z (by decide), fun _ => one _ l B L1 T1 hl g1 g2 hO hK1 (by rw [eL]; exact hle) (fun T2 q1 q2 q3 q4 => ?_)⟩
      refine m_nextOrder (bl l hl).1 (bl l hl).2 q3 (fun _ => ⟨fun _ => ?_, fun y => absurd rfl y⟩) (fun l' hl' => by rw [hn] at hl'; cases hl')
      rw [eB]
      exact ⟨zI_z _, fin T2 q1 q2 (by rw [← eL]; exact q4)⟩
    | cons m ls ih =>
      intro l B L1 T1 hch hin g1 g2 hO hK1 eL eB
      have hl := hin l List.mem_cons_self
      rw [chn, Bool.and_eq_true] at hch
      have hn : nxtL l = some m := eq_of_beq hch.1
      have eL2 : insL σ (insL σ L1 (rs σ [l])) (rs σ (m :: ls)) = insL σ L (RS σ) := by rw [← insL_app, ← rsc]; exact eL
      refine ⟨fun z => absurd z (by decide), fun _ => one _ l B L1 T1 hl g1 g2 hO hK1 (by have := insL_le (σ := σ) (rs σ (m :: ls)) (insL σ L1 (rs σ [l])); rw [eL2] at this; omega) (fun T2 q1 q2 q3 q4 => ?_)⟩
      refine m_nextOrder (bl l hl).1 (bl l hl).2 q3 (fun h => by rw [hn] at h; cases h) (fun l' hl' T3 w1 w2 w3 => ?_)
      rw [hn] at hl'
      have : m = l' := Option.some.inj hl'
      subst this
      refine ih m _ _ T3 hch.2 (fun x hx => hin x (List.mem_cons_of_mem _ hx)) (fun v i a b c d => by rw [w1 v i b]; exact q1 v i a b c d) (by rw [w2]; exact q2) w3 ⟨by rw [w1 _ _ (by decide)]; exact q4.1, by rw [w2]; exact q4.2.1, q4.2.2⟩ eL2 ?_
      rw [← eB, rsc l (m :: ls)]
      cases B <;> cases (rs σ [l]) <;> simp
  -- the first order
  have init : ∀ (d i : Nat) (T1 : St), i + d = σ 7 0 → (∀ v j, v ≠ 30 → T1.1 v j = T0.1 v j) → T1.2 = T0.2 → (∀ j, j < i → T1.1 30 j = nI j) → itr (F := Int32 → St → Prop) (fun _ _ => False) (fun k6 x1 S => bX7_goThrough_6 k6 Q x1 S) (d + 1) (nI i) T1 := by
    intro d
    induction d with
    | zero =>
      intro i T1 hi e1 e2 e3
      have : i = σ 7 0 := by omega
      subst this
      have t13 := (stay T1 (fun v i a b c d => e1 v i b)).1
      obtain ⟨k1, k2⟩ := sq_ok (σ 7 0) (by omega)
      refine ⟨fun _ => ?_, fun z => absurd (by rw [t13]; exact nI_le (by omega) (by omega)) z⟩
      cases es : sq (σ 7 0) with
      | nil => rw [es] at k2; cases k2
      | cons l ls =>
        rw [es] at k1 k2
        have : l = List.range (σ 7 0) := Option.some.inj k2
        have hRS : RS σ = rs σ (l :: ls) := by unfold RS; rw [es]
        refine ⟨ls.length + 2, seq ls l false L T1 k1 (fun m hm => by rw [es]; exact hm) (fun v i a b c d => e1 v i b) (by rw [e2]) ?_ ⟨by rw [e1 _ _ (by decide), f1 _ _ (by decide)]; exact hK.1, by rw [e2, f2]; exact hK.2.1, hK.2.2⟩ (by rw [hRS]) (by rw [hRS]; rfl)⟩
        subst this
        refine ⟨by rw [List.length_range]; exact t13, fun j hj => ?_⟩
        rw [List.length_range] at hj
        rw [e3 j hj, List.getD_eq_getElem?_getD, List.getElem?_range hj]; rfl
    | succ d ih =>
      intro i T1 hi e1 e2 e3
      have t13 := (stay T1 (fun v i a b c d => e1 v i b)).1
      refine ⟨fun z => by rw [t13, nI_leI (by omega) (by omega)] at z; omega, fun _ => ⟨nu_in (by omega) (by decide), fun T2 e4 y17 e17 => ?_⟩⟩
      rw [nu_cl (by omega)] at e4
      rw [e17, nI_1]
      refine ih (i + 1) T2 (by omega) (fun v j hv => by rw [e4, wr_1, if_neg hv]; exact e1 v j hv) (by rw [e4]; exact e2) (fun j hj => ?_)
      rw [e4, wr_1, if_pos rfl]
      by_cases z : j = i
      · rw [if_pos z, z]
      · rw [if_neg z]; exact e3 j (by omega)
  exact ⟨σ 7 0 + 1, init (σ 7 0) 0 T0 (by omega) (fun _ _ _ => rfl) rfl (fun j h => absurd h (Nat.not_lt_zero _))⟩
