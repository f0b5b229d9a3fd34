/-! the pure memory: cells by ids, typed contents -/
abbrev AV : Type := Int32 ⊕ (Int64 ⊕ Option Nat)
abbrev vi (x : Int32) : AV := .inl x
abbrev vl (x : Int64) : AV := .inr (.inl x)
abbrev vo (o : Option Nat) : AV := .inr (.inr o)
abbrev vr (q : Nat) : AV := .inr (.inr (some q))
def cv (ad : Nat → Nat) : AV → Value
  | .inl x => .int x
  | .inr (.inl x) => .long x
  | .inr (.inr o) => va_rf (o.map ad)
abbrev Mem : Type := Nat × (Nat → Nat × Nat) × (Nat → Nat → Int32) × (Nat → Nat → Option Nat) × (Nat → Nat → Int64)
def hn (h : Mem) : Nat := h.1
def hk (h : Mem) (a : Nat) : Nat := (h.2.1 a).1
def hl (h : Mem) (a : Nat) : Nat := (h.2.1 a).2
def gI (h : Mem) (a k : Nat) : Int32 := h.2.2.1 a k
def gR (h : Mem) (a k : Nat) : Option Nat := h.2.2.2.1 a k
def gL (h : Mem) (a k : Nat) : Int64 := h.2.2.2.2 a k
def sI (h : Mem) (a k : Nat) (v : Int32) : Mem := (h.1, h.2.1, (fun a' k' => if a' = a ∧ k' = k then v else h.2.2.1 a' k'), h.2.2.2.1, h.2.2.2.2)
def sR (h : Mem) (a k : Nat) (v : Option Nat) : Mem := (h.1, h.2.1, h.2.2.1, (fun a' k' => if a' = a ∧ k' = k then v else h.2.2.2.1 a' k'), h.2.2.2.2)
def sL (h : Mem) (a k : Nat) (v : Int64) : Mem := (h.1, h.2.1, h.2.2.1, h.2.2.2.1, (fun a' k' => if a' = a ∧ k' = k then v else h.2.2.2.2 a' k'))
/-- a block of n places of the int array a, from d on, becomes what f says -/
def sB (h : Mem) (a d n : Nat) (f : Nat → Int32) : Mem := (h.1, h.2.1, (fun a' k' => if a' = a ∧ d ≤ k' ∧ k' < d + n then f (k' - d) else h.2.2.1 a' k'), h.2.2.2.1, h.2.2.2.2)
/-- the kind of a cell becomes another -/
def sK (h : Mem) (a kd : Nat) : Mem := (h.1, (fun a' => if a' = a then (kd, (h.2.1 a').2) else h.2.1 a'), h.2.2.1, h.2.2.2.1, h.2.2.2.2)
/-- a new cell -/
def nw (h : Mem) (kd len : Nat) : Mem := (h.1 + 1, (fun a => if a = h.1 then (kd, len) else h.2.1 a), (fun a k => if a = h.1 then 0 else h.2.2.1 a k), (fun a k => if a = h.1 then none else h.2.2.2.1 a k), (fun a k => if a = h.1 then 0 else h.2.2.2.2 a k))
theorem gI_sI (h : Mem) (a k : Nat) (v : Int32) (a' k' : Nat) : gI (sI h a k v) a' k' = if a' = a ∧ k' = k then v else gI h a' k' := rfl
theorem gI_sR (h : Mem) (a k : Nat) (v : Option Nat) (a' k' : Nat) : gI (sR h a k v) a' k' = gI h a' k' := rfl
theorem gI_sL (h : Mem) (a k : Nat) (v : Int64) (a' k' : Nat) : gI (sL h a k v) a' k' = gI h a' k' := rfl
theorem gI_sB (h : Mem) (a d n : Nat) (f : Nat → Int32) (a' k' : Nat) : gI (sB h a d n f) a' k' = if a' = a ∧ d ≤ k' ∧ k' < d + n then f (k' - d) else gI h a' k' := rfl
theorem gI_sK (h : Mem) (a kd a' k' : Nat) : gI (sK h a kd) a' k' = gI h a' k' := rfl
theorem gI_nw (h : Mem) (kd len a' k' : Nat) : gI (nw h kd len) a' k' = if a' = hn h then 0 else gI h a' k' := rfl
theorem gR_sR (h : Mem) (a k : Nat) (v : Option Nat) (a' k' : Nat) : gR (sR h a k v) a' k' = if a' = a ∧ k' = k then v else gR h a' k' := rfl
theorem gR_sI (h : Mem) (a k : Nat) (v : Int32) (a' k' : Nat) : gR (sI h a k v) a' k' = gR h a' k' := rfl
theorem gR_sL (h : Mem) (a k : Nat) (v : Int64) (a' k' : Nat) : gR (sL h a k v) a' k' = gR h a' k' := rfl
theorem gR_sB (h : Mem) (a d n : Nat) (f : Nat → Int32) (a' k' : Nat) : gR (sB h a d n f) a' k' = gR h a' k' := rfl
theorem gR_sK (h : Mem) (a kd a' k' : Nat) : gR (sK h a kd) a' k' = gR h a' k' := rfl
theorem gR_nw (h : Mem) (kd len a' k' : Nat) : gR (nw h kd len) a' k' = if a' = hn h then none else gR h a' k' := rfl
theorem gL_sL (h : Mem) (a k : Nat) (v : Int64) (a' k' : Nat) : gL (sL h a k v) a' k' = if a' = a ∧ k' = k then v else gL h a' k' := rfl
theorem gL_sI (h : Mem) (a k : Nat) (v : Int32) (a' k' : Nat) : gL (sI h a k v) a' k' = gL h a' k' := rfl
theorem gL_sR (h : Mem) (a k : Nat) (v : Option Nat) (a' k' : Nat) : gL (sR h a k v) a' k' = gL h a' k' := rfl
theorem gL_sB (h : Mem) (a d n : Nat) (f : Nat → Int32) (a' k' : Nat) : gL (sB h a d n f) a' k' = gL h a' k' := rfl
theorem gL_sK (h : Mem) (a kd a' k' : Nat) : gL (sK h a kd) a' k' = gL h a' k' := rfl
theorem gL_nw (h : Mem) (kd len a' k' : Nat) : gL (nw h kd len) a' k' = if a' = hn h then 0 else gL h a' k' := rfl
theorem hn_sI (h : Mem) (a k : Nat) (v : Int32) : hn (sI h a k v) = hn h := rfl
theorem hn_sR (h : Mem) (a k : Nat) (v : Option Nat) : hn (sR h a k v) = hn h := rfl
theorem hn_sL (h : Mem) (a k : Nat) (v : Int64) : hn (sL h a k v) = hn h := rfl
theorem hn_sB (h : Mem) (a d n : Nat) (f : Nat → Int32) : hn (sB h a d n f) = hn h := rfl
theorem hn_sK (h : Mem) (a kd : Nat) : hn (sK h a kd) = hn h := rfl
theorem hn_nw (h : Mem) (kd len : Nat) : hn (nw h kd len) = hn h + 1 := rfl
theorem hk_sI (h : Mem) (a k : Nat) (v : Int32) (b : Nat) : hk (sI h a k v) b = hk h b := rfl
theorem hk_sR (h : Mem) (a k : Nat) (v : Option Nat) (b : Nat) : hk (sR h a k v) b = hk h b := rfl
theorem hk_sL (h : Mem) (a k : Nat) (v : Int64) (b : Nat) : hk (sL h a k v) b = hk h b := rfl
theorem hk_sB (h : Mem) (a d n : Nat) (f : Nat → Int32) (b : Nat) : hk (sB h a d n f) b = hk h b := rfl
theorem hk_sK (h : Mem) (a kd b : Nat) : hk (sK h a kd) b = if b = a then kd else hk h b := by
  unfold hk sK; dsimp only; split <;> rfl
theorem hk_nw (h : Mem) (kd len b : Nat) : hk (nw h kd len) b = if b = hn h then kd else hk h b := by
  unfold hk nw hn; dsimp only; split <;> rfl
theorem hl_sI (h : Mem) (a k : Nat) (v : Int32) (b : Nat) : hl (sI h a k v) b = hl h b := rfl
theorem hl_sR (h : Mem) (a k : Nat) (v : Option Nat) (b : Nat) : hl (sR h a k v) b = hl h b := rfl
theorem hl_sL (h : Mem) (a k : Nat) (v : Int64) (b : Nat) : hl (sL h a k v) b = hl h b := rfl
theorem hl_sB (h : Mem) (a d n : Nat) (f : Nat → Int32) (b : Nat) : hl (sB h a d n f) b = hl h b := rfl
theorem hl_sK (h : Mem) (a kd b : Nat) : hl (sK h a kd) b = hl h b := by
  unfold hl sK; dsimp only; split <;> rfl
theorem hl_nw (h : Mem) (kd len b : Nat) : hl (nw h kd len) b = if b = hn h then len else hl h b := by
  unfold hl nw hn; dsimp only; split <;> rfl
/-- a reference that may be null is used: it isn't, and it is a cell of the kind -/
def isO (h : Mem) (o : Option Nat) (kd : Nat) (k : Nat → Prop) : Prop := ∃ q, o = some q ∧ q < hn h ∧ hk h q = kd ∧ k q
