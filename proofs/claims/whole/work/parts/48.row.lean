/-! rows of outcomes: sorted, each once -/
def ins (x : Int64) : List Int64 → List Int64
  | [] => [x]
  | y :: t => if y < x then y :: ins x t else if y = x then y :: t else x :: y :: t
def cut (x : Int64) : List Int64 → Nat
  | [] => 0
  | y :: t => if y < x then cut x t + 1 else 0
def SL (l : List Int64) : Prop := l.Pairwise (· < ·)
def RO (r : Nat → Int64) (l : List Int64) : Prop := ∀ i, i < l.length → r i = l.getD i 0
theorem l_lt {a b : Int64} : a < b ↔ a.toInt < b.toInt := Int64.lt_iff_toInt_lt
theorem l_le {a b : Int64} : a ≤ b ↔ a.toInt ≤ b.toInt := Int64.le_iff_toInt_le
theorem l_eq {a b : Int64} : a = b ↔ a.toInt = b.toInt := Int64.toInt_inj.symm
theorem l_nlt {a b : Int64} : ¬ a < b ↔ b ≤ a := by rw [l_lt, l_le]; omega
theorem cut_le (x : Int64) : ∀ l, cut x l ≤ l.length
  | [] => Nat.le_refl _
  | y :: t => by
    rw [cut]; split
    · have := cut_le x t; rw [List.length_cons]; omega
    · exact Nat.zero_le _
theorem cut_u {x : Int64} : ∀ (l : List Int64) (k : Nat), k ≤ l.length → (∀ i, i < k → l.getD i 0 < x) → (∀ i, k ≤ i → i < l.length → ¬ l.getD i 0 < x) → cut x l = k
  | [], k, h, _, _ => by rw [List.length_nil] at h; rw [cut]; omega
  | y :: t, k, h, h1, h2 => by
    rw [List.length_cons] at h h2
    rw [cut]
    by_cases c : y < x
    · rw [if_pos c]
      rcases Nat.eq_zero_or_pos k with z | z
      · exact absurd c (h2 0 (by omega) (by omega))
      · have := cut_u t (k - 1) (by omega) (fun i hi => by have := h1 (i + 1) (by omega); simpa using this) (fun i a b => by have := h2 (i + 1) (by omega) (by omega); simpa using this)
        omega
    · rw [if_neg c]
      rcases Nat.eq_zero_or_pos k with z | z
      · omega
      · exact absurd (by have := h1 0 z; simpa using this) c
theorem ins_at {x : Int64} : ∀ (l : List Int64), (cut x l < l.length ∧ l.getD (cut x l) 0 = x → ins x l = l) ∧ (¬ (cut x l < l.length ∧ l.getD (cut x l) 0 = x) → (ins x l).length = l.length + 1 ∧ ∀ i, i ≤ l.length → (ins x l).getD i 0 = if i < cut x l then l.getD i 0 else if i = cut x l then x else l.getD (i - 1) 0)
  | [] => by
    refine ⟨fun h => absurd h.1 (Nat.not_lt_zero _), fun _ => ⟨rfl, fun i hi => ?_⟩⟩
    have : i = 0 := by rw [List.length_nil] at hi; omega
    subst this; rfl
  | y :: t => by
    rw [cut, ins]
    by_cases c : y < x
    · rw [if_pos c, if_pos c]
      obtain ⟨i1, i2⟩ := ins_at (x := x) t
      refine ⟨fun h => ?_, fun h => ?_⟩
      · rw [i1 ⟨by have := h.1; rw [List.length_cons] at this; omega, by have := h.2; simpa using this⟩]
      · obtain ⟨j1, j2⟩ := i2 (fun q => h ⟨by rw [List.length_cons]; omega, by simpa using q.2⟩)
        refine ⟨by rw [List.length_cons, List.length_cons, j1], fun i hi => ?_⟩
        rcases Nat.eq_zero_or_pos i with z | z
        · subst z; simp
        · obtain ⟨m, rfl⟩ : ∃ m, i = m + 1 := ⟨i - 1, by omega⟩
          have := j2 m (by rw [List.length_cons] at hi; omega)
          rw [List.getD_cons_succ, List.getD_cons_succ, this, Nat.add_sub_cancel]
          by_cases c1 : m < cut x t
          · rw [if_pos c1, if_pos (show m + 1 < cut x t + 1 by omega)]
          · rw [if_neg c1, if_neg (show ¬ m + 1 < cut x t + 1 by omega)]
            by_cases c2 : m = cut x t
            · rw [if_pos c2, if_pos (show m + 1 = cut x t + 1 by omega)]
            · rw [if_neg c2, if_neg (show ¬ m + 1 = cut x t + 1 by omega)]
              obtain ⟨q, rfl⟩ : ∃ q, m = q + 1 := ⟨m - 1, by omega⟩
              simp
    · rw [if_neg c, if_neg c]
      by_cases e : y = x
      · rw [if_pos e]
        refine ⟨fun _ => rfl, fun h => absurd ⟨by rw [List.length_cons]; omega, by simpa using e⟩ h⟩
      · rw [if_neg e]
        refine ⟨fun h => absurd (by simpa using h.2) e, fun _ => ⟨rfl, fun i hi => ?_⟩⟩
        rcases Nat.eq_zero_or_pos i with z | z
        · subst z; simp
        · obtain ⟨m, rfl⟩ : ∃ m, i = m + 1 := ⟨i - 1, by omega⟩
          rw [if_neg (by omega), if_neg (by omega)]; simp
theorem mem_ins {x y : Int64} : ∀ l, y ∈ ins x l ↔ y = x ∨ y ∈ l
  | [] => by simp [ins]
  | z :: t => by
    rw [ins]
    split
    · rw [List.mem_cons, mem_ins t, List.mem_cons]
      constructor
      · rintro (a | a | a)
        · exact Or.inr (Or.inl a)
        · exact Or.inl a
        · exact Or.inr (Or.inr a)
      · rintro (a | a | a)
        · exact Or.inr (Or.inl a)
        · exact Or.inl a
        · exact Or.inr (Or.inr a)
    · split
      · rename_i e
        subst e
        rw [List.mem_cons]
        constructor
        · intro a; exact Or.inr a
        · rintro (a | a)
          · exact Or.inl a
          · exact a
      · rw [List.mem_cons]
theorem SL_ins {x : Int64} : ∀ l, SL l → SL (ins x l)
  | [], _ => List.pairwise_singleton _ _
  | z :: t, h => by
    obtain ⟨h1, h2⟩ := List.pairwise_cons.mp h
    rw [ins]
    split
    · rename_i c
      refine List.pairwise_cons.mpr ⟨fun a ha => ?_, SL_ins t h2⟩
      rcases (mem_ins t).mp ha with e | e
      · rw [e]; exact c
      · exact h1 a e
    · split
      · exact h
      · rename_i c e
        refine List.pairwise_cons.mpr ⟨fun a ha => ?_, h⟩
        have hz : x < z := by
          rw [l_lt] at c ⊢; rw [l_eq] at e; omega
        rcases List.mem_cons.mp ha with q | q
        · rw [q]; exact hz
        · have := h1 a q
          rw [l_lt] at this hz ⊢; omega
theorem SL_ix {l : List Int64} (h : SL l) {i j : Nat} (hij : i < j) (hj : j < l.length) : l.getD i 0 < l.getD j 0 := by
  have := List.pairwise_iff_getElem.mp h i j (by omega) hj hij
  rw [List.getD_eq_getElem?_getD, List.getD_eq_getElem?_getD, List.getElem?_eq_getElem hj, List.getElem?_eq_getElem (by omega)]
  exact this
theorem cut_lo {x : Int64} : ∀ (l : List Int64) (i : Nat), i < cut x l → l.getD i 0 < x
  | [], i, h => absurd h (Nat.not_lt_zero _)
  | y :: t, i, h => by
    rw [cut] at h
    by_cases c : y < x
    · rw [if_pos c] at h
      rcases Nat.eq_zero_or_pos i with z | z
      · subst z; simpa using c
      · obtain ⟨m, rfl⟩ : ∃ m, i = m + 1 := ⟨i - 1, by omega⟩
        have := cut_lo (x := x) t m (by omega)
        simpa using this
    · rw [if_neg c] at h; omega
theorem cut_hi {x : Int64} : ∀ (l : List Int64), cut x l < l.length → ¬ l.getD (cut x l) 0 < x
  | [], h => absurd h (Nat.not_lt_zero _)
  | y :: t, h => by
    rw [cut] at h ⊢
    by_cases c : y < x
    · rw [if_pos c] at h ⊢
      have := cut_hi (x := x) t (by rw [List.length_cons] at h; omega)
      simpa using this
    · rw [if_neg c]; simpa using c
theorem cut_mem {x : Int64} {l : List Int64} (hs : SL l) : (cut x l < l.length ∧ l.getD (cut x l) 0 = x) ↔ x ∈ l := by
  constructor
  · rintro ⟨h1, h2⟩
    rw [List.getD_eq_getElem?_getD, List.getElem?_eq_getElem h1] at h2
    have : l[cut x l] = x := h2
    rw [← this]; exact List.getElem_mem _
  · intro h
    obtain ⟨i, hi, e⟩ := List.getElem_of_mem h
    have ei : l.getD i 0 = x := by rw [List.getD_eq_getElem?_getD, List.getElem?_eq_getElem hi]; exact e
    have : cut x l = i := by
      refine cut_u l i (by omega) (fun j hj => ?_) (fun j h1 h2 q => ?_)
      · rw [← ei]; exact SL_ix hs hj hi
      · by_cases z : j = i
        · rw [z, ei] at q; rw [l_lt] at q; omega
        · have := SL_ix hs (show i < j by omega) h2
          rw [ei] at this
          rw [l_lt] at q this; omega
    rw [this]; exact ⟨hi, ei⟩
/-- two sorted rows of the same are the same -/
theorem SL_ext : ∀ (l m : List Int64), SL l → SL m → (∀ x, x ∈ l ↔ x ∈ m) → l = m
  | [], [], _, _, _ => rfl
  | [], b :: m, _, _, h => absurd ((h b).mpr List.mem_cons_self) (List.not_mem_nil)
  | a :: l, [], _, _, h => absurd ((h a).mp List.mem_cons_self) (List.not_mem_nil)
  | a :: l, b :: m, h1, h2, h => by
    obtain ⟨a1, a2⟩ := List.pairwise_cons.mp h1
    obtain ⟨b1, b2⟩ := List.pairwise_cons.mp h2
    have e : a = b := by
      rcases List.mem_cons.mp ((h a).mp List.mem_cons_self) with q | q
      · exact q
      · rcases List.mem_cons.mp ((h b).mpr List.mem_cons_self) with w | w
        · exact w.symm
        · have := b1 a q
          have := a1 b w
          rw [l_lt] at *; omega
    subst e
    congr 1
    refine SL_ext l m a2 b2 (fun x => ⟨fun q => ?_, fun q => ?_⟩)
    · rcases List.mem_cons.mp ((h x).mp (List.mem_cons_of_mem _ q)) with w | w
      · have := a1 x q; rw [w, l_lt] at this; omega
      · exact w
    · rcases List.mem_cons.mp ((h x).mpr (List.mem_cons_of_mem _ q)) with w | w
      · have := b1 x q; rw [w, l_lt] at this; omega
      · exact w
theorem ins_le {x : Int64} (l : List Int64) : l.length ≤ (ins x l).length ∧ (ins x l).length ≤ l.length + 1 := by
  by_cases c : cut x l < l.length ∧ l.getD (cut x l) 0 = x
  · rw [(ins_at l).1 c]; omega
  · rw [((ins_at l).2 c).1]; omega
/-! a row's room -/
def pwF : Nat → Nat → Nat → Nat
  | 0, c, _ => c
  | f + 1, c, k => if k ≤ c then c else pwF f (2 * c) k
theorem pwF_ge : ∀ f c k, c ≤ pwF f c k
  | 0, c, k => Nat.le_refl _
  | f + 1, c, k => by
    rw [pwF]; split
    · exact Nat.le_refl _
    · have := pwF_ge f (2 * c) k; omega
theorem pwF_mono {a b : Nat} (h : a ≤ b) : ∀ f c, pwF f c a ≤ pwF f c b
  | 0, c => Nat.le_refl _
  | f + 1, c => by
    rw [pwF, pwF]
    by_cases hb : b ≤ c
    · rw [if_pos hb, if_pos (by omega)]; exact Nat.le_refl _
    · rw [if_neg hb]
      by_cases ha : a ≤ c
      · rw [if_pos ha]; have := pwF_ge f (2 * c) b; omega
      · rw [if_neg ha]; exact pwF_mono h f (2 * c)
theorem pwF_C : ∀ f c k, ∃ j, j ≤ f ∧ pwF f c k = c * 2 ^ j
  | 0, c, k => ⟨0, Nat.le_refl _, by rw [pwF]; omega⟩
  | f + 1, c, k => by
    rw [pwF]
    split
    · exact ⟨0, by omega, by omega⟩
    · obtain ⟨j, h1, h2⟩ := pwF_C f (2 * c) k
      refine ⟨j + 1, by omega, ?_⟩
      rw [h2, Nat.pow_succ, Nat.mul_comm 2 c, Nat.mul_assoc, Nat.mul_comm 2]
theorem pwF_in : ∀ f c j k, j ≤ f → k ≤ c * 2 ^ j → pwF f c k ≤ c * 2 ^ j
  | 0, c, j, k, hj, hk => by
    have : j = 0 := by omega
    subst this; rw [pwF]; omega
  | f + 1, c, j, k, hj, hk => by
    rw [pwF]
    have hp : 0 < 2 ^ j := Nat.two_pow_pos j
    split
    · exact Nat.le_mul_of_pos_right c hp
    · rename_i hc
      rcases Nat.eq_zero_or_pos j with z | z
      · subst z; omega
      · obtain ⟨m, rfl⟩ : ∃ m, j = m + 1 := ⟨j - 1, by omega⟩
        have e : c * 2 ^ (m + 1) = 2 * c * 2 ^ m := by rw [Nat.pow_succ, Nat.mul_comm 2 c, Nat.mul_assoc, Nat.mul_comm 2]
        rw [e] at hk ⊢
        exact pwF_in f (2 * c) m k (by omega) hk
theorem pwF_out : ∀ f c j, j < f → 0 < c → pwF f c (c * 2 ^ j + 1) = 2 * (c * 2 ^ j)
  | 0, c, j, hj, _ => absurd hj (Nat.not_lt_zero _)
  | f + 1, c, j, hj, hc => by
    have hp : 0 < 2 ^ j := Nat.two_pow_pos j
    have hge : c ≤ c * 2 ^ j := Nat.le_mul_of_pos_right c hp
    rw [pwF, if_neg (by omega)]
    rcases Nat.eq_zero_or_pos j with z | z
    · subst z
      cases f with
      | zero => rw [pwF]; omega
      | succ f => rw [pwF, if_pos (by omega)]; omega
    · obtain ⟨m, rfl⟩ : ∃ m, j = m + 1 := ⟨j - 1, by omega⟩
      have e : c * 2 ^ (m + 1) = 2 * c * 2 ^ m := by rw [Nat.pow_succ, Nat.mul_comm 2 c, Nat.mul_assoc, Nat.mul_comm 2]
      rw [e]
      exact pwF_out f (2 * c) m (by omega) (by omega)
def pw (k : Nat) : Nat := pwF 10 64 k
def IsC (n : Nat) : Prop := ∃ j, j ≤ 10 ∧ n = 64 * 2 ^ j
def cp (n k : Nat) : Nat := max n (pw k)
theorem pw_C (k : Nat) : IsC (pw k) := pwF_C 10 64 k
theorem pw_le {a b : Nat} (h : a ≤ b) : pw a ≤ pw b := pwF_mono h 10 64
theorem IsC_b {n : Nat} (h : IsC n) : 64 ≤ n ∧ n ≤ 65536 := by
  obtain ⟨j, hj, e⟩ := h
  have h1 : 0 < 2 ^ j := Nat.two_pow_pos j
  have h2 : 2 ^ j ≤ 2 ^ 10 := Nat.pow_le_pow_right (by decide) hj
  omega
theorem cp_C {n k : Nat} (h : IsC n) : IsC (cp n k) := by
  unfold cp
  rcases Nat.le_total n (pw k) with q | q
  · rw [Nat.max_eq_right q]; exact pw_C k
  · rw [Nat.max_eq_left q]; exact h
theorem cp_in {n k : Nat} (h : IsC n) (hk : k ≤ n) : cp n k = n := by
  obtain ⟨j, hj, e⟩ := h
  have : pw k ≤ n := by rw [e] at hk ⊢; exact pwF_in 10 64 j k hj hk
  unfold cp
  omega
theorem cp_out {n : Nat} (h : IsC n) (hn : n < 65536) : cp n (n + 1) = 2 * n := by
  obtain ⟨j, hj, e⟩ := h
  have hj2 : j < 10 := by
    rcases Nat.lt_or_ge j 10 with q | q
    · exact q
    · have : j = 10 := by omega
      subst this; omega
  have : pw (n + 1) = 2 * n := by rw [e]; exact pwF_out 10 64 j hj2 (by decide)
  unfold cp
  omega
theorem cp_cp {n a b : Nat} (h : a ≤ b) : cp (cp n a) b = cp n b := by
  unfold cp; have := pw_le h; omega
theorem cp_mono {n a b : Nat} (h : a ≤ b) : cp n a ≤ cp n b := by
  unfold cp; have := pw_le h; omega
theorem cp_ge (n k : Nat) : n ≤ cp n k := by unfold cp; omega
theorem nu_half {a : Nat} (ha : a < 2 ^ 31) : nI a / (2 : Int32) = nI (a / 2) := by
  rw [show (2 : Int32) = nI 2 from rfl]; exact pk_div ha (by decide) (by decide)
theorem c_spot {n : Nat} {x : Int64} {S : St} {l : List Int64} {Q : Int32 → St → Prop} (h17 : S.1 17 0 = nI l.length) (hn : l.length ≤ n) (hn2 : n ≤ 65536) (hr : RO (S.2.2 1) l) (hs : SL l) (hQ : Q (nI (cut x l)) S) : pX3_spotOf n x S Q := by
  intro y8 e8
  rw [h17] at e8
  subst e8
  have loop : ∀ (d lo hi t : Nat), lo ≤ hi → hi ≤ l.length → hi - lo < 2 ^ d → t + d = 32 → (∀ i, i < lo → l.getD i 0 < x) → (∀ i, hi ≤ i → i < l.length → ¬ l.getD i 0 < x) → itr (F := Int64 → Int32 → Int32 → Int32 → St → Prop) (fun _ _ _ _ _ => False) (fun k11 x1 x3 x4 x5 S => bX3_spotOf_11 n k11 Q x1 x3 x4 x5 S) (d + 1) x (nI lo) (nI hi) (nI t) S := by
    intro d
    induction d with
    | zero =>
      intro lo hi t h1 h2 h3 h4 h5 h6
      have e : lo = hi := by omega
      have ec := cut_u l lo (by omega) h5 (fun i a b => h6 i (by omega) b)
      refine ⟨fun _ => ?_, fun z => absurd (nI_le (by omega) (by omega)) z⟩
      rw [← ec]; exact hQ
    | succ d ih =>
      intro lo hi t h1 h2 h3 h4 h5 h6
      refine ⟨fun z => ?_, fun z => ⟨fun w => absurd ((nI_leI (a := 32) (by decide) (by omega)).mp w) (by omega), fun _ y2 e2 => ?_⟩⟩
      · have e : hi ≤ lo := (nI_leI (by omega) (by omega)).mp z
        have ec := cut_u l lo (by omega) h5 (fun i a b => h6 i (by omega) b)
        rw [← ec]; exact hQ
      · have hlt : lo < hi := by
          rcases Nat.lt_or_ge lo hi with q | q
          · exact q
          · exact absurd (nI_le q (by omega)) z
        rw [nI_add, nu_half (by omega)] at e2
        subst e2
        have hp : 2 ^ (d + 1) = 2 * 2 ^ d := by rw [Nat.pow_succ]; omega
        rw [nu_cl (by omega), lg_cmp_ge, hr _ (by omega)]
        refine ⟨nu_in (by omega) (by omega), fun w y1 e1 => ?_, fun w y4 e4 y1 e1 => ?_⟩
        · rw [e1, nI_1]
          refine ih lo ((lo + hi) / 2) (t + 1) (by omega) (by omega) (by omega) (by omega) h5 (fun i a b q => ?_)
          by_cases z2 : i = (lo + hi) / 2
          · rw [z2] at q; rw [l_lt] at q; rw [l_le] at w; omega
          · have := SL_ix hs (show (lo + hi) / 2 < i by omega) b
            rw [l_lt] at q this; rw [l_le] at w; omega
        · rw [e4, e1, nI_1, nI_1]
          refine ih ((lo + hi) / 2 + 1) hi (t + 1) (by omega) h2 (by omega) (by omega) (fun i a => ?_) h6
          have w2 : l.getD ((lo + hi) / 2) 0 < x := by rw [l_le] at w; rw [l_lt]; omega
          by_cases z2 : i = (lo + hi) / 2
          · rw [z2]; exact w2
          · have := SL_ix hs (show i < (lo + hi) / 2 by omega) (by omega)
            rw [l_lt] at w2 this ⊢; omega
  refine ⟨33, loop 32 0 l.length 0 (by omega) (by omega) ?_ (by omega) (fun i h => absurd h (Nat.not_lt_zero _)) (fun i a b => by omega)⟩
  have : (65536 : Nat) < 2 ^ 32 := by decide
  omega
theorem m_place {x : Int64} {T : St} {l : List Int64} {Q : Int32 → St → Prop} (h5 : T.1 5 0 = nI l.length) (hn : l.length ≤ 40000) (hr : RO (T.2.2 0) l) (hs : SL l) (hQ : Q (nI (cut x l)) T) : pX7_placeOf x T Q := by
  intro y8 e8
  rw [h5] at e8
  subst e8
  have loop : ∀ (d lo hi : Nat), lo ≤ hi → hi ≤ l.length → hi - lo ≤ d → (∀ i, i < lo → l.getD i 0 < x) → (∀ i, hi ≤ i → i < l.length → ¬ l.getD i 0 < x) → itr (F := Int64 → Int32 → Int32 → St → Prop) (fun _ _ _ _ => False) (fun k8 x1 x3 x4 S => bX7_placeOf_8 k8 Q x1 x3 x4 S) (d + 1) x (nI lo) (nI hi) T := by
    intro d
    induction d with
    | zero =>
      intro lo hi h1 h2 h3 h5 h6
      have e : lo = hi := by omega
      have ec := cut_u l lo (by omega) h5 (fun i a b => h6 i (by omega) b)
      refine ⟨fun _ => ?_, fun z => absurd (nI_le (by omega) (by omega)) z⟩
      rw [← ec]; exact hQ
    | succ d ih =>
      intro lo hi h1 h2 h3 h5 h6
      refine ⟨fun z => ?_, fun z y2 e2 => ?_⟩
      · have e : hi ≤ lo := (nI_leI (by omega) (by omega)).mp z
        have ec := cut_u l lo (by omega) h5 (fun i a b => h6 i (by omega) b)
        rw [← ec]; exact hQ
      · have hlt : lo < hi := by
          rcases Nat.lt_or_ge lo hi with q | q
          · exact q
          · exact absurd (nI_le q (by omega)) z
        rw [nI_add, nu_half (by omega)] at e2
        subst e2
        rw [nu_cl (by omega), lg_cmp_ge, hr _ (by omega)]
        refine ⟨nu_in (by omega) (by decide), fun w => ?_, fun w y4 e4 => ?_⟩
        · refine ih lo ((lo + hi) / 2) (by omega) (by omega) (by omega) h5 (fun i a b q => ?_)
          by_cases z2 : i = (lo + hi) / 2
          · rw [z2] at q; rw [l_lt] at q; rw [l_le] at w; omega
          · have := SL_ix hs (show (lo + hi) / 2 < i by omega) b
            rw [l_lt] at q this; rw [l_le] at w; omega
        · rw [e4, nI_1]
          refine ih ((lo + hi) / 2 + 1) hi (by omega) h2 (by omega) (fun i a => ?_) h6
          have w2 : l.getD ((lo + hi) / 2) 0 < x := by rw [l_le] at w; rw [l_lt]; omega
          by_cases z2 : i = (lo + hi) / 2
          · rw [z2]; exact w2
          · have := SL_ix hs (show i < (lo + hi) / 2 by omega) (by omega)
            rw [l_lt] at w2 this ⊢; omega
  exact ⟨l.length + 1, loop l.length 0 l.length (by omega) (by omega) (by omega) (fun i h => absurd h (Nat.not_lt_zero _)) (fun i a b => by omega)⟩
theorem c_keep {n0 n2 : Nat} {x : Int64} {S : St} {l : List Int64} {Q : St → Prop} (h17 : S.1 17 0 = nI l.length) (hc : IsC n0) (hn : l.length ≤ n0) (hl : (ins x l).length ≤ 65536) (hr : RO (S.2.2 1) l) (hs : SL l) (e2 : n2 = cp n0 (ins x l).length)
    (hQ : ∀ S', (∀ v i, v ≠ 17 → S'.1 v i = S.1 v i) → S'.2.1 = S.2.1 → S'.2.2 0 = S.2.2 0 → S'.1 17 0 = nI (ins x l).length → RO (S'.2.2 1) (ins x l) → Q S') : pX3_keep n0 n2 x S Q := by
  obtain ⟨hc1, hc2⟩ := IsC_b hc
  have hcl := cut_le x l
  refine c_spot h17 hn hc2 hr hs ?_
  have k56 : ∀ (n : Nat) (S1 : St), n = n2 → l.length + 1 ≤ n → n ≤ 131072 → ¬ (cut x l < l.length ∧ l.getD (cut x l) 0 = x) → (∀ v i, S1.1 v i = S.1 v i) → S1.2.1 = S.2.1 → S1.2.2 0 = S.2.2 0 → RO (S1.2.2 1) l → bX3_keep_56 n2 Q x (nI (cut x l)) n S1 := by
    intro n S1 en hn1 hn2 hnc f1 f2 f3 f4
    obtain ⟨j1, j2⟩ := (ins_at (x := x) l).2 hnc
    unfold bX3_keep_56
    rw [f1, h17, pk_sub hcl, nI_1, nu_cl (by omega), nu_cl (by omega), nu_cl (by omega)]
    refine ⟨nI_pos (by omega), nI_pos (by omega), nI_pos (by omega), by omega, by omega, fun S2 e2 => ⟨nu_in (by omega) (by omega), fun S3 e3 S4 e4 => ⟨en, hQ S4 (fun v i hv => ?_) ?_ ?_ ?_ (fun i hi => ?_)⟩⟩⟩
    · rw [e4, wr_1, if_neg hv, e3, wrL_1, e2]; exact f1 v i
    · rw [e4, wr_2, e3, wrL_2, e2]; exact f2
    · rw [e4, wr_2, e3]
      funext i
      rw [wrL_3, if_neg (by decide), e2, ← f3]
      rfl
    · rw [e4, wr_1, if_pos rfl, if_pos rfl, e3, wrL_1, e2, j1]
      show S1.1 17 0 + 1 = _
      rw [f1, h17, nI_1]
    · rw [j1] at hi
      rw [j2 i (by omega), e4, wr_2, e3, wrL_3, if_pos rfl]
      by_cases z1 : i = cut x l
      · rw [if_pos z1, if_neg (by omega), if_pos z1]
      · rw [if_neg z1, e2]
        show va_cpy (S1.2.2 1) (S1.2.2 1) (cut x l) (cut x l + 1) (l.length - cut x l) i = _
        rcases Nat.lt_or_ge i (cut x l) with z2 | z2
        · rw [if_pos z2, pk_cpy_out (by omega), f4 i (by omega)]
        · rw [if_neg (by omega), if_neg z1, pk_cpy_in (by omega) (by omega), f4 _ (by omega)]
          congr 1; omega
  have k26 : ¬ (cut x l < l.length ∧ l.getD (cut x l) 0 = x) → bX3_keep_26 n2 Q x (nI (cut x l)) n0 S := by
    intro hnc
    obtain ⟨j1, j2⟩ := (ins_at (x := x) l).2 hnc
    rw [j1] at e2 hl
    refine ⟨fun z => ?_, fun z => ?_⟩
    · rw [h17] at z
      have : l.length < n0 := (nI_ltI (by omega) (by omega)).mp z
      rw [cp_in hc (by omega)] at e2
      exact k56 n0 S e2.symm (by omega) (by omega) hnc (fun _ _ => rfl) rfl rfl hr
    · rw [h17] at z
      have : l.length = n0 := by
        rcases Nat.lt_or_ge l.length n0 with q | q
        · exact absurd ((nI_ltI (by omega) (by omega)).mpr q) z
        · omega
      rw [this, cp_out hc (by omega)] at e2
      refine ⟨e2, by omega, by omega, fun S1 e1 => ?_⟩
      refine k56 n2 S1 rfl (by omega) (by omega) hnc (fun v i => by rw [e1]; rfl) (by rw [e1]; rfl) ?_ (fun i hi => ?_)
      · rw [e1]; rfl
      · rw [e1]
        show va_cpy (S.2.2 1) (fun _ => 0) 0 0 n0 i = _
        rw [pk_cpy_in (by omega) (by omega), show 0 + (i - 0) = i by omega]
        exact hr i hi
  refine ⟨fun z => k26 (fun q => ?_), fun z => ?_⟩
  · rw [h17, nI_leI (by omega) (by omega)] at z; omega
  · rw [h17, nI_leI (by omega) (by omega)] at z
    rw [nu_cl (by omega), lg_cmp_eq, hr _ (by omega)]
    refine ⟨nu_in (by omega) (by omega), fun w => k26 (fun q => w q.2), fun w => ?_⟩
    have e := (ins_at (x := x) l).1 ⟨by omega, w⟩
    rw [e, cp_in hc hn] at e2
    refine ⟨e2.symm, hQ S (fun _ _ _ => rfl) rfl rfl ?_ ?_⟩
    · rw [e]; exact h17
    · rw [e]; exact hr
theorem m_keep {x : Int64} {T : St} {l : List Int64} {Q : St → Prop} (h5 : T.1 5 0 = nI l.length) (hl : (ins x l).length ≤ 40000) (hr : RO (T.2.2 0) l) (hs : SL l)
    (hQ : ∀ T', (∀ v i, v ≠ 5 → T'.1 v i = T.1 v i) → T'.2.1 = T.2.1 → T'.1 5 0 = nI (ins x l).length → RO (T'.2.2 0) (ins x l) → Q T') : pX7_keep x T Q := by
  have hcl := cut_le x l
  have hle := (ins_le (x := x) l).1
  refine m_place h5 (by omega) hr hs ?_
  have k26 : ¬ (cut x l < l.length ∧ l.getD (cut x l) 0 = x) → bX7_keep_26 Q x (nI (cut x l)) T := by
    intro hnc
    obtain ⟨j1, j2⟩ := (ins_at (x := x) l).2 hnc
    rw [j1] at hl
    intro y9 e9
    rw [h5] at e9
    subst e9
    have loop : ∀ (d k : Nat) (T1 : St), k = cut x l + d → k ≤ l.length → T1.1 = T.1 → T1.2.1 = T.2.1 → (∀ i, i < k → T1.2.2 0 i = l.getD i 0) → (∀ i, k < i → i ≤ l.length → T1.2.2 0 i = l.getD (i - 1) 0) → itr (F := Int64 → Int32 → Int32 → St → Prop) (fun _ _ _ _ => False) (fun k32 x1 x3 x4 S => bX7_keep_32 k32 Q x1 x3 x4 S) (d + 1) x (nI (cut x l)) (nI k) T1 := by
      intro d
      induction d with
      | zero =>
        intro k T1 hk hk2 f1 f2 f3 f4
        refine ⟨fun _ => ⟨nu_in (by omega) (by decide), fun S1 e1 S3 e3 => hQ S3 (fun v i hv => ?_) ?_ ?_ (fun i hi => ?_)⟩, fun z => absurd (nI_le (by omega) (by omega)) z⟩
        · rw [e3, wr_1, if_neg hv, e1, wrL_1, f1]
        · rw [e3, wr_2, e1, wrL_2, f2]
        · rw [e3, wr_1, if_pos rfl, if_pos rfl, e1, wrL_1, f1, h5, nI_1, j1]
        · rw [j1] at hi
          rw [nu_cl (by omega)] at e1
          rw [j2 i (by omega), e3, wr_2, e1, wrL_3, if_pos rfl]
          by_cases z1 : i = cut x l
          · rw [if_pos z1, if_neg (by omega), if_pos z1]
          · rw [if_neg z1]
            rcases Nat.lt_or_ge i (cut x l) with z2 | z2
            · rw [if_pos z2, f3 i (by omega)]
            · rw [if_neg (by omega), if_neg z1, f4 i (by omega) (by omega)]
      | succ d ih =>
        intro k T1 hk hk2 f1 f2 f3 f4
        refine ⟨fun z => absurd ((nI_leI (by omega) (by omega)).mp z) (by omega), fun _ => ?_⟩
        rw [nu_pred (by omega), nu_cl (by omega), nu_cl (by omega)]
        refine ⟨nu_in (by omega) (by decide), nu_in (by omega) (by decide), fun S5 e5 y7 e7 => ?_⟩
        rw [e7, nu_a1, nu_pred (by omega)]
        refine ih (k - 1) S5 (by omega) (by omega) (by rw [e5, wrL_1, f1]) (by rw [e5, wrL_2, f2]) (fun i hi => ?_) (fun i h1 h2 => ?_)
        · rw [e5, wrL_3, if_pos rfl, if_neg (by omega)]; exact f3 i (by omega)
        · rw [e5, wrL_3, if_pos rfl]
          by_cases z : i = k
          · rw [if_pos z, f3 _ (by omega), z]
          · rw [if_neg z]; exact f4 i (by omega) h2
    exact ⟨l.length - cut x l + 1, loop (l.length - cut x l) l.length T (by omega) (by omega) rfl rfl (fun i hi => hr i hi) (fun i a b => by omega)⟩
  refine ⟨fun z => k26 (fun q => ?_), fun z => ?_⟩
  · rw [h5, nI_leI (by omega) (by omega)] at z; omega
  · rw [h5, nI_leI (by omega) (by omega)] at z
    rw [nu_cl (by omega), lg_cmp_eq, hr _ (by omega)]
    refine ⟨nu_in (by omega) (by decide), fun w => k26 (fun q => w q.2), fun w => ?_⟩
    have e := (ins_at (x := x) l).1 ⟨by omega, w⟩
    refine hQ T (fun _ _ _ => rfl) rfl ?_ ?_
    · rw [e]; exact h5
    · rw [e]; exact hr
