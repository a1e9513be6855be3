/-! the words of nest mates: they hold of a state as long as its tables are alike -/
def xNw : List Cond := [Cond.fieldLinkNest "LitmusRunner$Ordering" 101 "LitmusRunner$Access" "writes" "Z" "LitmusRunner", Cond.fieldLinkNest "LitmusRunner$Ordering" 104 "LitmusRunner$Access" "ownWrite" "I" "LitmusRunner", Cond.fieldLinkNest "LitmusRunner$Ordering" 107 "LitmusRunner$Access" "put" "I" "LitmusRunner", Cond.fieldLinkNest "LitmusRunner$Ordering" 110 "LitmusRunner$Access" "got" "I" "LitmusRunner", Cond.fieldLinkNest "LitmusRunner$Ordering" 119 "LitmusRunner$Access" "kind" "I" "LitmusRunner", Cond.fieldLinkNest "LitmusRunner$Ordering" 122 "LitmusRunner$Access" "byPlace" "I" "LitmusRunner", Cond.fieldLinkNest "LitmusRunner$Ordering" 125 "LitmusRunner$Access" "byValue" "I" "LitmusRunner", Cond.fieldLinkNest "LitmusRunner$Ordering" 128 "LitmusRunner$Access" "twins" "I" "LitmusRunner", Cond.fieldLinkNest "LitmusRunner$Ordering" 131 "LitmusRunner$Access" "reserve" "I" "LitmusRunner", Cond.fieldLinkNest "LitmusRunner$Ordering" 134 "LitmusRunner$Access" "hart" "I" "LitmusRunner", Cond.fieldLinkNest "LitmusRunner$Ordering" 74 "LitmusRunner$Access" "after" "I" "LitmusRunner", Cond.fieldLinkNest "LitmusRunner$Ordering" 80 "LitmusRunner$Access" "reads" "Z" "LitmusRunner", Cond.fieldLinkNest "LitmusRunner$Ordering" 98 "LitmusRunner$Access" "location" "I" "LitmusRunner", Cond.fieldLinkNest "LitmusRunner$Way" 141 "LitmusRunner$Access" "hart" "I" "LitmusRunner", Cond.fieldLinkNest "LitmusRunner$Way" 142 "LitmusRunner$Access" "kind" "I" "LitmusRunner", Cond.fieldLinkNest "LitmusRunner$Way" 145 "LitmusRunner$Access" "marks" "I" "LitmusRunner", Cond.fieldLinkNest "LitmusRunner$Way" 154 "LitmusRunner$Access" "byPlace" "I" "LitmusRunner", Cond.fieldLinkNest "LitmusRunner$Way" 157 "LitmusRunner$Access" "byValue" "I" "LitmusRunner", Cond.fieldLinkNest "LitmusRunner$Way" 160 "LitmusRunner$Access" "reserve" "I" "LitmusRunner", Cond.fieldLinkNest "LitmusRunner$Way" 169 "LitmusRunner$Access" "after" "I" "LitmusRunner", Cond.fieldLinkNest "LitmusRunner$Way" 172 "LitmusRunner$Access" "twins" "I" "LitmusRunner", Cond.fieldLinkNest "LitmusRunner$Way" 175 "LitmusRunner$Access" "ownWrite" "I" "LitmusRunner", Cond.fieldLinkNest "LitmusRunner$Way" 39 "LitmusRunner$Access" "put" "I" "LitmusRunner", Cond.fieldLinkNest "LitmusRunner$Way" 55 "LitmusRunner$Access" "reads" "Z" "LitmusRunner", Cond.fieldLinkNest "LitmusRunner$Way" 59 "LitmusRunner$Access" "got" "I" "LitmusRunner", Cond.fieldLinkNest "LitmusRunner$Way" 66 "LitmusRunner$Access" "writes" "Z" "LitmusRunner", Cond.fieldLinkNest "LitmusRunner$Way" 69 "LitmusRunner$Access" "location" "I" "LitmusRunner", Cond.methodLinkNest "LitmusRunner$Programs" 44 ⟨"LitmusRunner", "isAccess", "(I)Z"⟩ "LitmusRunner", Cond.methodLinkNest "LitmusRunner$Programs" 48 ⟨"LitmusRunner", "isReader", "(I)Z"⟩ "LitmusRunner", Cond.methodLinkNest "LitmusRunner$Way" 148 ⟨"LitmusRunner", "isReader", "(I)Z"⟩ "LitmusRunner", Cond.methodLinkNest "LitmusRunner$Way" 151 ⟨"LitmusRunner", "isWriter", "(I)Z"⟩ "LitmusRunner", Cond.methodLinkNest "LitmusRunner$Way" 25 ⟨"LitmusRunner$Access", "<init>", "()V"⟩ "LitmusRunner"]
def xN (U : State) : Prop := ∀ w ∈ xNw, va_Nw w U
def xNk : Cond → Bool
  | .fieldLinkNest _ _ _ _ _ _ => true
  | .methodLinkNest _ _ _ _ => true
  | _ => false
theorem xNw_k : ∀ w ∈ xNw, xNk w = true := by decide +kernel
theorem xN.warm {s U : State} (hW : s.WarmedH U.vm) (h : xN s) : xN U := by
  intro w hw
  have h1 := h w hw
  have h2 := xNw_k w hw
  cases w with
  | fieldLinkNest a i b n d h => exact va_Nw.warmF hW h1
  | methodLinkNest a i x h => exact va_Nw.warmM hW h1
  | _ => cases h2
theorem xN.same {u U : State} (hv : U.vm = u.vm) (h : xN u) : xN U := by
  intro w hw
  have h1 := h w hw
  have h2 := xNw_k w hw
  cases w with
  | fieldLinkNest a i b n d h => exact va_Nw.same rfl hv.symm h1
  | methodLinkNest a i x h => exact va_Nw.same rfl hv.symm h1
  | _ => cases h2
