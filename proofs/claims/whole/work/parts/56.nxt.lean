/-! the reference: the next order -/
def sw (l : List Nat) (a b : Nat) : List Nat := (l.set a (l.getD b 0)).set b (l.getD a 0)
/-- the last k with l k ≤ l (k + 1), below m, plus 1 -/
def fK (l : List Nat) : Nat → Nat
  | 0 => 0
  | m + 1 => if l.getD m 0 ≤ l.getD (m + 1) 0 then m + 1 else fK l m
def fJ (l : List Nat) (x : Nat) : Nat → Nat
  | 0 => 0
  | m + 1 => if x ≤ l.getD m 0 then m else fJ l x m
def rv : Nat → List Nat → Nat → Nat → List Nat
  | 0, l, _, _ => l
  | f + 1, l, a, b => if b ≤ a then l else rv f (sw l a b) (a + 1) (b - 1)
def nxtL (l : List Nat) : Option (List Nat) :=
  if fK l (l.length - 1) = 0 then none
  else some (rv 6 (sw l (fK l (l.length - 1) - 1) (fJ l (l.getD (fK l (l.length - 1) - 1) 0) l.length)) (fK l (l.length - 1)) (l.length - 1))
def pmL : Nat → List Nat → List (List Nat)
  | 0, _ => [[]]
  | f + 1, r => r.flatMap (fun x => (pmL f (r.erase x)).map (fun t => x :: t))
def sq (n : Nat) : List (List Nat) := pmL n (List.range n)
def chn : List (List Nat) → Bool
  | [] => true
  | [a] => nxtL a == none
  | a :: b :: t => nxtL a == some b && chn (b :: t)
theorem sq_ok : ∀ n, n < 7 → chn (sq n) = true ∧ (sq n).head? = some (List.range n) := by decide +kernel
theorem pmL_mem : ∀ (f : Nat) (r l : List Nat), r.Nodup → (l ∈ pmL f r ↔ l.length = f ∧ l.Nodup ∧ ∀ x, x ∈ l → x ∈ r)
  | 0, r, l, _ => by
    rw [pmL, List.mem_singleton]
    constructor
    · rintro rfl; exact ⟨rfl, List.nodup_nil, fun x h => by cases h⟩
    · rintro ⟨h, -⟩; exact List.length_eq_zero_iff.mp h
  | f + 1, r, l, hr => by
    rw [pmL, List.mem_flatMap]
    constructor
    · rintro ⟨x, hx, h⟩
      obtain ⟨t, ht, e⟩ := List.mem_map.mp h
      obtain ⟨h1, h2, h3⟩ := (pmL_mem f (r.erase x) t (hr.erase x)).mp ht
      subst e
      refine ⟨by rw [List.length_cons, h1], List.nodup_cons.mpr ⟨fun q => ?_, h2⟩, fun y hy => ?_⟩
      · have := h3 x q
        rw [hr.mem_erase_iff] at this
        exact this.1 rfl
      · rcases List.mem_cons.mp hy with rfl | hy
        · exact hx
        · exact (hr.mem_erase_iff.mp (h3 y hy)).2
    · rintro ⟨h1, h2, h3⟩
      cases l with
      | nil => cases h1
      | cons x t =>
        obtain ⟨n1, n2⟩ := List.nodup_cons.mp h2
        refine ⟨x, h3 x List.mem_cons_self, List.mem_map.mpr ⟨t, (pmL_mem f (r.erase x) t (hr.erase x)).mpr ⟨by rw [List.length_cons] at h1; omega, n2, fun y hy => ?_⟩, rfl⟩⟩
        rw [hr.mem_erase_iff]
        exact ⟨fun e => n1 (e ▸ hy), h3 y (List.mem_cons_of_mem _ hy)⟩
theorem sq_mem {n : Nat} {l : List Nat} : l ∈ sq n ↔ l.length = n ∧ l.Nodup ∧ ∀ x, x ∈ l → x < n := by
  unfold sq
  rw [pmL_mem n _ l List.nodup_range]
  simp only [List.mem_range]
theorem g_set {l : List Nat} {a x i : Nat} (ha : a < l.length) : (l.set a x).getD i 0 = if i = a then x else l.getD i 0 := by
  rw [List.getD_eq_getElem?_getD, List.getD_eq_getElem?_getD, List.getElem?_set]
  by_cases e : a = i
  · subst e; rw [if_pos rfl, if_pos rfl, if_pos ha]; rfl
  · rw [if_neg e, if_neg (fun q => e q.symm)]
theorem sw_len {l : List Nat} {a b : Nat} : (sw l a b).length = l.length := by unfold sw; rw [List.length_set, List.length_set]
theorem sw_g {l : List Nat} {a b i : Nat} (ha : a < l.length) (hb : b < l.length) : (sw l a b).getD i 0 = if i = b then l.getD a 0 else if i = a then l.getD b 0 else l.getD i 0 := by
  unfold sw
  rw [g_set (by rw [List.length_set]; exact hb), g_set ha]
theorem fK_le (l : List Nat) : ∀ m, fK l m ≤ m
  | 0 => Nat.le_refl _
  | m + 1 => by
    rw [fK]
    split
    · exact Nat.le_refl _
    · have := fK_le l m; omega
theorem fK_s (l : List Nat) : ∀ m, fK l m ≠ 0 → l.getD (fK l m - 1) 0 ≤ l.getD (fK l m) 0
  | 0, h => absurd rfl h
  | m + 1, h => by
    rw [fK] at h ⊢
    by_cases c : l.getD m 0 ≤ l.getD (m + 1) 0
    · rw [if_pos c]; exact c
    · rw [if_neg c] at h ⊢; exact fK_s l m h
/-- the row of orders holds l -/
def OD (l : List Nat) (T : St) : Prop := T.1 13 0 = nI l.length ∧ ∀ i, i < l.length → T.1 30 i = nI (l.getD i 0)
def BL (l : List Nat) : Prop := ∀ i, l.getD i 0 < 6
theorem BL_sw {l : List Nat} {a b : Nat} (ha : a < l.length) (hb : b < l.length) (h : BL l) : BL (sw l a b) := by
  intro i
  rw [sw_g ha hb]
  split
  · exact h a
  · split
    · exact h b
    · exact h i
theorem OD_sw {l : List Nat} {a b : Nat} {T : St} (ha : a < l.length) (hb : b < l.length) (h : OD l T) : OD (sw l a b) (wr (wr T 30 a (T.1 30 b)) 30 b (T.1 30 a)) := by
  refine ⟨?_, fun i hi => ?_⟩
  · rw [wr_1, if_neg (by decide), wr_1, if_neg (by decide), sw_len]; exact h.1
  · rw [sw_len] at hi
    rw [wr_1, if_pos rfl, sw_g ha hb]
    by_cases e : i = b
    · rw [if_pos e, if_pos e]; exact h.2 a ha
    · rw [if_neg e, if_neg e, wr_1, if_pos rfl]
      by_cases e2 : i = a
      · rw [if_pos e2, if_pos e2]; exact h.2 b hb
      · rw [if_neg e2, if_neg e2]; exact h.2 i hi
theorem m_nextOrder {l : List Nat} {T : St} {Q : Int32 → St → Prop} (hl : l.length ≤ 6) (hB : BL l) (hO : OD l T) (hN : nxtL l = none → Q 0 T)
    (hT : ∀ l', nxtL l = some l' → ∀ T', (∀ v i, v ≠ 30 → T'.1 v i = T.1 v i) → T'.2 = T.2 → OD l' T' → Q 1 T') : pX7_nextOrder T Q := by
  have nm1 : ∀ m, nI (m + 1) - 1 + (-1 : Int32) = nI m - 1 := by
    intro m; rw [nI_pred, nu_a1]
  -- the rest is turned round
  have l3 : ∀ (f : Nat) (m : List Nat) (a b : Nat) (T1 : St), b < a + f → b < m.length → m.length ≤ 6 → a ≤ 6 → OD m T1 → BL m → (∀ v i, v ≠ 30 → T1.1 v i = T.1 v i) → T1.2 = T.2 → (∀ T', (∀ v i, v ≠ 30 → T'.1 v i = T.1 v i) → T'.2 = T.2 → OD (rv f m a b) T' → Q 1 T') → itr (F := Int32 → Int32 → St → Prop) (fun _ _ _ => False) (fun k107 x4 x5 S => bX7_nextOrder_107 k107 Q x4 x5 S) (f + 1) (nI a) (nI b) T1 := by
    intro f
    induction f with
    | zero =>
      intro m a b T1 hf hb hm ha hO1 hB1 g1 g2 hQ
      exact ⟨fun _ => hQ T1 g1 g2 hO1, fun z => absurd (nI_le (by omega) (by omega)) z⟩
    | succ f ih =>
      intro m a b T1 hf hb hm ha hO1 hB1 g1 g2 hQ
      rw [rv] at hQ
      refine ⟨fun z => ?_, fun z => ?_⟩
      · rw [nI_leI (by omega) (by omega)] at z
        rw [if_pos z] at hQ
        exact hQ T1 g1 g2 hO1
      · rw [nI_leI (by omega) (by omega)] at z
        rw [if_neg z] at hQ
        have hia : vp_in (nI a) 6 := nu_in (by omega) (by decide)
        have hib : vp_in (nI b) 6 := nu_in (by omega) (by decide)
        have ca : (nI a).toNatClampNeg = a := nu_cl (by omega)
        have cb : (nI b).toNatClampNeg = b := nu_cl (by omega)
        refine ⟨hia, fun y2 e2 => ⟨hib, hia, fun T2 e3 => ⟨hib, fun T3 e4 y8 e8 y9 e9 => ?_⟩⟩⟩
        rw [ca] at e2 e3
        rw [cb] at e3 e4
        rw [e8, e9, nI_1, nu_a1, nu_pred (by omega)]
        have ee : T3 = wr (wr T1 30 a (T1.1 30 b)) 30 b (T1.1 30 a) := by rw [e4, e3, e2]
        refine ih (sw m a b) (a + 1) (b - 1) T3 (by omega) (by rw [sw_len]; omega) (by rw [sw_len]; exact hm) (by omega) ?_ (BL_sw (by omega) hb hB1) (fun v i hv => ?_) ?_ hQ
        · rw [ee]; exact OD_sw (by omega) hb hO1
        · rw [ee, wr_1, if_neg hv, wr_1, if_neg hv]; exact g1 v i hv
        · rw [ee]; exact g2
  -- the last that is greater
  have l2 : ∀ (k : Nat), k + 1 < l.length → nxtL l = some (rv 6 (sw l k (fJ l (l.getD k 0) l.length)) (k + 1) (l.length - 1)) → l.getD k 0 ≤ l.getD (k + 1) 0 → ∀ m, k + 1 ≤ m → m < l.length → fJ l (l.getD k 0) (m + 1) = fJ l (l.getD k 0) l.length → itr (F := Int32 → Int32 → St → Prop) (fun _ _ _ => False) (fun k47 x1 x2 S => bX7_nextOrder_47 k47 Q x1 x2 S) (m + 1) (nI k) (nI m) T := by
    intro k hk hx hkk m
    induction m with
    | zero => intro h; omega
    | succ m ih =>
      intro h1 h2 h3
      have hik : vp_in (nI k) 6 := nu_in (by omega) (by decide)
      have him : vp_in (nI (m + 1)) 6 := nu_in (by omega) (by decide)
      have ck : (nI k).toNatClampNeg = k := nu_cl (by omega)
      have cm : (nI (m + 1)).toNatClampNeg = m + 1 := nu_cl (by omega)
      have b1 := hB k
      have b2 := hB (m + 1)
      have ec : nI (l.getD k 0) ≤ nI (l.getD (m + 1) 0) ↔ l.getD k 0 ≤ l.getD (m + 1) 0 := nI_leI (by omega) (by omega)
      refine ⟨him, hik, ?_⟩
      rw [ck, cm, hO.2 k (by omega), hO.2 (m + 1) h2]
      refine ⟨fun z => ⟨hik, fun y14 e14 => ⟨him, hik, fun T2 e2 => ⟨him, fun T3 e3 y20 e20 y21 e21 => ⟨7, ?_⟩⟩⟩⟩, fun z y22 e22 => ?_⟩
      · have z' := ec.mp z
        rw [fJ, if_pos z'] at h3
        have ee : T3 = wr (wr T 30 k (T.1 30 (m + 1))) 30 (m + 1) (T.1 30 k) := by
          rw [e3, e2, e14, hO.2 k (by omega), hO.2 (m + 1) h2]
        have o3 : OD (sw l k (m + 1)) T3 := by rw [ee]; exact OD_sw (by omega) h2 hO
        rw [e20, e21, nI_1, o3.1, sw_len, nu_pred (by omega)]
        rw [← h3] at hx
        refine l3 6 (sw l k (m + 1)) (k + 1) (l.length - 1) T3 (by omega) (by rw [sw_len]; omega) (by rw [sw_len]; exact hl) (by omega) o3 (BL_sw (by omega) h2 hB) (fun v i hv => ?_) ?_ (fun T' q1 q2 q3 => hT _ hx T' q1 q2 q3)
        · rw [ee, wr_1, if_neg hv, wr_1, if_neg hv]
        · rw [ee]; rfl
      · have z' : ¬ l.getD k 0 ≤ l.getD (m + 1) 0 := fun q => z (ec.mpr q)
        rw [fJ, if_neg z'] at h3
        rw [e22, nu_a1, nI_pred]
        have : m ≠ k := fun q => z' (by rw [q]; exact hkk)
        exact ih (by omega) (by omega) h3
  -- the last rise
  have l1 : ∀ m, m + 1 ≤ l.length → fK l m = fK l (l.length - 1) → itr (F := Int32 → St → Prop) (fun _ _ => False) (fun k7 x1 S => bX7_nextOrder_7 k7 Q x1 S) (m + 1) (nI m - 1) T := by
    intro m
    induction m with
    | zero =>
      intro h1 h2
      rw [fK] at h2
      refine ⟨fun _ => ⟨fun z => absurd z (by decide), fun _ => hN ?_⟩, fun z => absurd (by decide) z⟩
      unfold nxtL; rw [if_pos h2.symm]
    | succ m ih =>
      intro h1 h2
      have him : vp_in (nI m) 6 := nu_in (by omega) (by decide)
      have him1 : vp_in (nI (m + 1)) 6 := nu_in (by omega) (by decide)
      have cm : (nI m).toNatClampNeg = m := nu_cl (by omega)
      have cm1 : (nI (m + 1)).toNatClampNeg = m + 1 := nu_cl (by omega)
      have b1 := hB m
      have b2 := hB (m + 1)
      have ec : nI (l.getD m 0) ≤ nI (l.getD (m + 1) 0) ↔ l.getD m 0 ≤ l.getD (m + 1) 0 := nI_leI (by omega) (by omega)
      rw [nI_pred]
      refine ⟨fun z => absurd z (nI_pos (by omega)), fun _ => ⟨him, ?_⟩⟩
      rw [nI_1, cm, cm1, hO.2 m (by omega), hO.2 (m + 1) (by omega)]
      refine ⟨him1, fun z => ⟨fun _ y24 e24 => ⟨l.length - 1 + 1, ?_⟩, fun y => absurd (nI_pos' (by omega)) y⟩, fun z y28 e28 => ?_⟩
      · have z' := ec.mp z
        rw [fK, if_pos z'] at h2
        rw [e24, hO.1, nu_pred (by omega)]
        refine l2 m (by omega) ?_ z' (l.length - 1) (by omega) (by omega) (by rw [show l.length - 1 + 1 = l.length by omega])
        unfold nxtL
        rw [← h2, if_neg (by omega), Nat.add_sub_cancel]
      · have z' : ¬ l.getD m 0 ≤ l.getD (m + 1) 0 := fun q => z (ec.mpr q)
        rw [fK, if_neg z'] at h2
        rw [e28, nu_a1]
        exact ih (by omega) h2
  intro y31 e31
  rw [hO.1] at e31
  by_cases h0 : l.length = 0
  · refine ⟨1, ?_⟩
    rw [e31, h0]
    refine ⟨fun _ => ⟨fun z => absurd z (by decide), fun _ => hN ?_⟩, fun z => absurd (by decide) z⟩
    unfold nxtL; rw [h0]; rfl
  · refine ⟨l.length - 1 + 1, ?_⟩
    have : y31 = nI (l.length - 1) - 1 := by
      rw [e31, ← nu_pred (by omega)]
      rw [Int32.sub_sub]; rfl
    rw [this]
    exact l1 (l.length - 1) (by omega) rfl
