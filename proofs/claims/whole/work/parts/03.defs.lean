def qv (ad : Nat → Nat) : Value → Value
  | .ref a => .ref (ad a)
  | v => v
def qown (t : Nat) : Bool := decide (t < 60) || (decide (64 ≤ t) && decide (t < 80))

def qcok (C : String) (T : u_T) (N : Nat) (ty : Nat → FieldType) : Prop :=
  (∀ k, k < N → parseFieldDescriptor (T k).2.2.1 = some (ty k)) ∧ (∀ a, a < N → ∀ b, b < N → a ≠ b → (T a).2.1 ≠ (T b).2.1) ∧ ∀ w ∈ u_ws C T N, w ∈ lw_tbl

def qfl (own : String) (idx ct k N : Nat) (t : FieldType) (fin : Bool) : Prop := ∃ (C : String) (T : u_T) (ty : Nat → FieldType), classes[ct]? = some (C, T, N) ∧ qown ct = true ∧ ct < 64 ∧ k < N ∧ (T k).1 = C ∧ qcok C T N ty ∧ ty k = t ∧ (T k).2.2.2 = fin ∧
  (Cond.fieldLink own idx C (T k).2.1 (T k).2.2.1 ∈ lw_tbl ∨ ∃ host, Cond.fieldLinkNest own idx C (T k).2.1 (T k).2.2.1 host ∈ lw_tbl)

def qfF (own : String) (idx ct k N : Nat) (t : FieldType) : Prop := ∃ (C : String) (T : u_T) (ty : Nat → FieldType), classes[ct]? = some (C, T, N) ∧ qown ct = true ∧ ct < 64 ∧ k < N ∧ (T k).1 = C ∧ C = own ∧ qcok C T N ty ∧ ty k = t ∧ (T k).2.2.2 = true ∧
  Cond.fieldLink own idx C (T k).2.1 (T k).2.2.1 ∈ lw_tbl

def qnw (own : String) (idx ct : Nat) (fs : List Value) : Prop := ∃ (C : String) (T : u_T) (ty : Nat → FieldType), classes[ct]? = some (C, T, fs.length) ∧ ct < 64 ∧ fs.length ≤ 256 ∧ qcok C T fs.length ty ∧ (∀ k, k < fs.length → fs[k]? = some (defaultValue (ty k))) ∧ (∀ v ∈ fs, ∀ ad, qv ad v = v) ∧
  Cond.classLink own idx C ∈ lw_tbl ∧ Cond.instantiable C fs.length ∈ lw_tbl ∧ Cond.initialized C ∈ lw_tbl

def qme (M : qM) : Prop := plainName M.1.cls = true ∧ M.2.2.1 ≤ 30 ∧ (M.1.cls ≠ "java/lang/invoke/MethodHandle" ∧ M.1.cls ≠ "java/lang/invoke/VarHandle") ∧
  ((Cond.code M.1 M.2.1 M.2.2.1 M.2.2.2.1 ∈ lw_tbl ∧ M.2.2.2.2 = []) ∨ Cond.codeWith M.1 M.2.1 M.2.2.1 M.2.2.2.1 M.2.2.2.2 ∈ lw_tbl) ∧ Cond.initialized M.1.cls ∈ lw_tbl
def qlk (own : String) (idx : Nat) (M : qM) : Prop := Cond.methodLink own idx M.1 ∈ lw_tbl ∨ ∃ host, Cond.methodLinkNest own idx M.1 host ∈ lw_tbl
