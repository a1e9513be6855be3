/-! how many outcomes one way can add: no more than nine -/
theorem nodup_le : ∀ (l M : List Int64), l.Nodup → (∀ x, x ∈ l → x ∈ M) → l.length ≤ M.length
  | [], _, _, _ => Nat.zero_le _
  | x :: t, M, hn, h => by
    obtain ⟨n1, n2⟩ := List.nodup_cons.mp hn
    have hx := h x List.mem_cons_self
    have := nodup_le t (M.erase x) n2 (fun y hy => by
      have e : y ≠ x := fun e => n1 (e ▸ hy)
      exact (List.mem_erase_of_ne e).mpr (h y (List.mem_cons_of_mem _ hy)))
    rw [List.length_erase_of_mem hx] at this
    have : 0 < M.length := List.length_pos_of_mem hx
    rw [List.length_cons]; omega
def wl (σ : AW) (x : Nat) : Nat → List Nat
  | 0 => []
  | m + 1 => if wtK (σ 31 m) = true ∧ σ 32 m = x then (m + 1) :: wl σ x m else wl σ x m
theorem wl_sum (σ : AW) : ∀ m, (wl σ 0 m).length + (wl σ 1 m).length + (wl σ 2 m).length ≤ m
  | 0 => Nat.le_refl _
  | m + 1 => by
    have ih := wl_sum σ m
    rw [wl, wl, wl]
    by_cases h : wtK (σ 31 m) = true
    · by_cases e0 : σ 32 m = 0
      · rw [if_pos ⟨h, e0⟩, if_neg (fun q => by omega), if_neg (fun q => by omega), List.length_cons]; omega
      · rw [if_neg (fun q => e0 q.2)]
        by_cases e1 : σ 32 m = 1
        · rw [if_pos ⟨h, e1⟩, if_neg (fun q => by omega), List.length_cons]; omega
        · rw [if_neg (fun q => e1 q.2)]
          split
          · rw [List.length_cons]; omega
          · omega
    · rw [if_neg (fun q => h q.1), if_neg (fun q => h q.1), if_neg (fun q => h q.1)]; omega
theorem wl_mem {σ : AW} {x w : Nat} : ∀ m, w < m → wtK (σ 31 w) = true → σ 32 w = x → w + 1 ∈ wl σ x m
  | 0, h, _, _ => absurd h (Nat.not_lt_zero _)
  | m + 1, h, h1, h2 => by
    rw [wl]
    by_cases e : w = m
    · subst e; rw [if_pos ⟨h1, h2⟩]; exact List.mem_cons_self
    · have := wl_mem m (by omega) h1 h2
      split
      · exact List.mem_cons_of_mem _ this
      · exact this
theorem wl_of {σ : AW} {x w : Nat} : ∀ m, w ∈ wl σ x m → ∃ k, w = k + 1 ∧ k < m ∧ wtK (σ 31 k) = true ∧ σ 32 k = x
  | 0, h => by cases h
  | m + 1, h => by
    rw [wl] at h
    by_cases c : wtK (σ 31 m) = true ∧ σ 32 m = x
    · rw [if_pos c] at h
      rcases List.mem_cons.mp h with rfl | h
      · exact ⟨m, rfl, by omega, c⟩
      · obtain ⟨k, k1, k2, k3⟩ := wl_of m h; exact ⟨k, k1, by omega, k3⟩
    · rw [if_neg c] at h
      obtain ⟨k, k1, k2, k3⟩ := wl_of m h; exact ⟨k, k1, by omega, k3⟩
def cw (σ : AW) (x : Nat) : List Nat := if (wl σ x (σ 7 0)).isEmpty then [0] else wl σ x (σ 7 0)
theorem cw_len {σ : AW} {x : Nat} : (cw σ x).length = max 1 (wl σ x (σ 7 0)).length := by
  unfold cw
  cases wl σ x (σ 7 0) with
  | nil => rfl
  | cons a t => rw [if_neg (by simp), List.length_cons]; omega
theorem cw_mem {σ : AW} {p : Nat → Nat} {x : Nat} (hC : CO σ p) : ltOf σ p (σ 7 0) x ∈ cw σ x := by
  by_cases z : ltOf σ p (σ 7 0) x = 0
  · rw [z]
    unfold cw
    have : wl σ x (σ 7 0) = [] := by
      cases e : wl σ x (σ 7 0) with
      | nil => rfl
      | cons a t =>
        have hm : a ∈ wl σ x (σ 7 0) := by rw [e]; exact List.mem_cons_self
        obtain ⟨k, k1, k2, k3, k4⟩ := wl_of _ hm
        have := amx_0 _ z k k2
        rw [ltQ_t.mpr ⟨k3, k4, hC.1 k k2⟩] at this
        cases this
    rw [this]; exact List.mem_cons_self
  · obtain ⟨f1, f2, -⟩ := amx_s _ z
    obtain ⟨g1, g2, g3⟩ := ltQ_t.mp f2
    have hm := wl_mem (σ := σ) (x := x) (σ 7 0) (w := ltOf σ p (σ 7 0) x - 1) (by unfold ltOf at z ⊢; omega) g1 g2
    rw [show ltOf σ p (σ 7 0) x - 1 + 1 = ltOf σ p (σ 7 0) x by omega] at hm
    unfold cw
    cases e : wl σ x (σ 7 0) with
    | nil => rw [e] at hm; cases hm
    | cons a t => rw [if_neg (by simp), ← e]; exact hm
theorem len_fm {f : Nat → List Int64} {k : Nat} : ∀ l : List Nat, (∀ a, (f a).length = k) → (l.flatMap f).length = l.length * k
  | [], _ => by simp
  | a :: t, h => by
    rw [List.flatMap_cons, List.length_append, h a, len_fm t h, List.length_cons, Nat.succ_mul, Nat.add_comm]
noncomputable def cand (σ : AW) : List Int64 := (cw σ 0).flatMap (fun a => (cw σ 1).flatMap (fun b => (cw σ 2).map (fun c => outX (σ 24) (fun x => vl σ (if x = 0 then a else if x = 1 then b else c)))))
theorem cand_len {σ : AW} (h6 : σ 7 0 ≤ 6) : (cand σ).length ≤ 9 := by
  unfold cand
  rw [len_fm (k := (cw σ 1).length * (cw σ 2).length) _ (fun a => by rw [len_fm (k := (cw σ 2).length) _ (fun b => by rw [List.length_map])])]
  rw [cw_len, cw_len, cw_len]
  have := wl_sum σ (σ 7 0)
  have key : ∀ a, a < 7 → ∀ b, b < 7 → ∀ c, c < 7 → a + b + c ≤ 6 → max 1 a * (max 1 b * max 1 c) ≤ 9 := by decide +kernel
  exact key _ (by omega) _ (by omega) _ (by omega) (by omega)
theorem cand_mem {σ : AW} {p : Nat → Nat} (hC : CO σ p) : ox σ p ∈ cand σ := by
  unfold cand ox
  refine List.mem_flatMap.mpr ⟨_, cw_mem (x := 0) hC, List.mem_flatMap.mpr ⟨_, cw_mem (x := 1) hC, List.mem_map.mpr ⟨_, cw_mem (x := 2) hC, ?_⟩⟩⟩
  unfold outX
  rw [hN_c (w := fun x => vl σ (ltOf σ p (σ 7 0) x)) 3 0 (fun k _ hk => ?_)]
  rcases (show k = 0 ∨ k = 1 ∨ k = 2 by omega) with rfl | rfl | rfl <;> rfl
theorem SL_nodup {l : List Int64} (h : SL l) : l.Nodup := by
  refine List.Pairwise.imp (fun {a b} hab e => ?_) h
  rw [e, l_lt] at hab
  omega
theorem way_cnt {mo : Nat} {σ : AW} (hW : WS mo σ) {l : List Int64} (hl : SL l) : (insL σ l (XS σ)).length ≤ l.length + 9 := by
  have h9 := cand_len (σ := σ) hW.1.1
  have := nodup_le (insL σ l (XS σ)) (l ++ cand σ) (SL_nodup (insL_SL _ _ hl)) (fun x hx => by
    rw [List.mem_append]
    rcases (insL_mem _ _).mp hx with h | ⟨p, h1, h2⟩
    · exact Or.inl h
    · rw [h2]; exact Or.inr (cand_mem ((XS_mem hW).mp h1).1))
  rw [List.length_append] at this
  omega
