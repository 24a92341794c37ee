section CAS
variable {d : Nat} {P : qE → Prop} {X : qH} {mem : Nat → Nat → Int32} {sw : Bool} {o : Int64} {e : List Nat}
theorem lgc (x : Int64) : lg_cmp x x = 0 := by unfold lg_cmp; simp
theorem gLa_table {xs : List Int32} {a4 : Int32} {w5 w6 : Slot} {I : (Nat → Nat → Int32) → Bool → Prop} {A : Int32 → (Nat → Nat → Int32) → Bool → Prop} {B1 B2 : (Nat → Nat → Int32) → Bool → Prop} (hX : X.length = 13) (hS : X[0]? = some (80, xs.map Value.int)) (hw5 : qfr w5) (hw6 : qfr w6) (i1 : inx (a4 + 1) xs.length)
    (kc : ∀ Q : qE → Prop, (∀ w m s, A w m s → Q (.inl (some (.int w)), hpo X m s o e)) → (∀ m s, B1 m s → Q (.inr (225 + e.length), hpo X m s o (e ++ [20]))) → (∀ m s, B2 m s → Q (.inr (225 + e.length), hpo X m s o (e ++ [21]))) → QW d mBp_table 0 (qen 2 [.ref 13, .int (xs.getD (Int32.toNatClampNeg (a4 + 1)) 0)]) [] (hpo X mem sw o e) Q)
    (km0 : ∀ w m s o, A w m s → ∀ Q : qE → Prop, (∀ m', m' 193 0 = 0 → I m' s → Q (.inl (some (.int w)), hpo X m' s o e)) → QW (d + 1) mMo_table 0 (qen 2 [.ref 193, .int (xs.getD (Int32.toNatClampNeg (a4 + 1)) 0)]) [] (hpo X m s o e) Q)
    (km1 : ∀ m s e', B1 m s → ∀ Q : qE → Prop, (∀ w m', m' 193 0 = 1 → I m' s → Q (.inl (some (.int w)), hpo X m' s o e')) → QW (d + 1) mMo_table 0 (qen 2 [.ref 193, .int (xs.getD (Int32.toNatClampNeg (a4 + 1)) 0)]) [] (hpo X m s o e') Q)
    (km2 : ∀ m s e', B2 m s → ∀ Q : qE → Prop, (∀ w m', m' 193 0 = 2 → I m' s → Q (.inl (some (.int w)), hpo X m' s o e')) → QW (d + 1) mMo_table 0 (qen 2 [.ref 193, .int (xs.getD (Int32.toNatClampNeg (a4 + 1)) 0)]) [] (hpo X m s o e') Q)
    (nx : ∀ m s o' e' w5 w6, qfr w5 → qfr w6 → I m s → e'.length ≤ e.length + 1 → QW (d + 1 + 1) mLa_law 852 (lLa_law_852 a4 w5 w6) [] (hpo X m s o' e') P) : QW (d + 1 + 1) mLa_law 112 (lLa_law_112 a4 w5 w6) [] (hpo X mem sw o e) P := by
  have tl : ∀ (a5 w : Int32) m s o' e', m 193 0 = a5 → (a5 = 0 → o' = Int32.toInt64 w) → I m s → e'.length ≤ e.length + 1 → QW (d + 1 + 1) mLa_law 135 (lLa_law_135 a4 a5 w6) [.int w] (hpo X m s o' e') P := by
    intro a5 w m s o' e' h1 h2 h3 h4
    have nn := nx m s o' e' (.val (.int a5)) (.val (.int w)) (Or.inr (Or.inl ⟨_, rfl⟩)) (Or.inr (Or.inl ⟨_, rfl⟩)) h3 h4
    exact bLa_law_135 hX hS hw6 (bMo_thrown_0 hX (qcl_i (bLa_law_141 hX hS (fun _ _ => bLa_law_165 hX hS nn) (fun _ _ _ => bLa_law_165 hX hS nn) (fun _ z zz => absurd (by rw [h2 z]; exact lgc _) zz) (fun z => absurd h1 z))))
  refine bLa_law_112 hX hS hw5 hw6 i1 (bLa_table_0 hX (kc _ ?_ ?_ ?_))
  · intro w m s ha
    exact qcl_i (bLa_table_7 hX (qcl_i (bLa_law_123 hX hS hw5 hw6 i1 (km0 w m s _ ha _ fun m' h1 h2 => qcl_i (tl _ _ _ _ _ _ h1 (fun _ => rfl) h2 (by omega))))))
  · intro m s hb
    exact tLa_table_1 hX (qcl_i (bLa_law_123 hX hS hw5 hw6 i1 (km1 m s _ hb _ fun w m' h1 h2 => qcl_i (tl _ _ _ _ _ _ h1 (fun z => absurd z (by decide)) h2 (by simp)))))
  · intro m s hb
    exact tLa_table_2 hX (qcl_i (bLa_law_123 hX hS hw5 hw6 i1 (km2 m s _ hb _ fun w m' h1 h2 => qcl_i (tl _ _ _ _ _ _ h1 (fun z => absurd z (by decide)) h2 (by simp)))))
theorem gLa_insert {xs : List Int32} {a4 : Int32} {w5 w6 : Slot} {I : (Nat → Nat → Int32) → Bool → Prop} {A : Int32 → (Nat → Nat → Int32) → Bool → Prop} {B1 B2 : (Nat → Nat → Int32) → Bool → Prop} (hX : X.length = 13) (hS : X[0]? = some (80, xs.map Value.int)) (hw5 : qfr w5) (hw6 : qfr w6) (i1 : inx (a4 + 1) xs.length) (i2 : inx (a4 + 2) xs.length) (i3 : inx (a4 + 3) xs.length) (i4 : inx (a4 + 4) xs.length)
    (kc : ∀ Q : qE → Prop, (∀ w m s, A w m s → Q (.inl (some (.int w)), hpo X m s o e)) → (∀ m s, B1 m s → Q (.inr (225 + e.length), hpo X m s o (e ++ [20]))) → (∀ m s, B2 m s → Q (.inr (225 + e.length), hpo X m s o (e ++ [21]))) → QW d mBp_insert 0 (qen 6 [.ref 13, .int (xs.getD (Int32.toNatClampNeg (a4 + 1)) 0), .int (xs.getD (Int32.toNatClampNeg (a4 + 2)) 0), .int (xs.getD (Int32.toNatClampNeg (a4 + 3)) 0), .int (xs.getD (Int32.toNatClampNeg (a4 + 4)) 0)]) [] (hpo X mem sw o e) Q)
    (km0 : ∀ w m s o, A w m s → ∀ Q : qE → Prop, (∀ m', m' 193 0 = 0 → I m' s → Q (.inl (some (.int w)), hpo X m' s o e)) → QW (d + 1) mMo_insert 0 (qen 7 [.ref 193, .int (xs.getD (Int32.toNatClampNeg (a4 + 1)) 0), .int (xs.getD (Int32.toNatClampNeg (a4 + 2)) 0), .int (xs.getD (Int32.toNatClampNeg (a4 + 3)) 0), .int (xs.getD (Int32.toNatClampNeg (a4 + 4)) 0)]) [] (hpo X m s o e) Q)
    (km1 : ∀ m s e', B1 m s → ∀ Q : qE → Prop, (∀ w m', m' 193 0 = 1 → I m' s → Q (.inl (some (.int w)), hpo X m' s o e')) → QW (d + 1) mMo_insert 0 (qen 7 [.ref 193, .int (xs.getD (Int32.toNatClampNeg (a4 + 1)) 0), .int (xs.getD (Int32.toNatClampNeg (a4 + 2)) 0), .int (xs.getD (Int32.toNatClampNeg (a4 + 3)) 0), .int (xs.getD (Int32.toNatClampNeg (a4 + 4)) 0)]) [] (hpo X m s o e') Q)
    (km2 : ∀ m s e', B2 m s → ∀ Q : qE → Prop, (∀ w m', m' 193 0 = 2 → I m' s → Q (.inl (some (.int w)), hpo X m' s o e')) → QW (d + 1) mMo_insert 0 (qen 7 [.ref 193, .int (xs.getD (Int32.toNatClampNeg (a4 + 1)) 0), .int (xs.getD (Int32.toNatClampNeg (a4 + 2)) 0), .int (xs.getD (Int32.toNatClampNeg (a4 + 3)) 0), .int (xs.getD (Int32.toNatClampNeg (a4 + 4)) 0)]) [] (hpo X m s o e') Q)
    (nx : ∀ m s o' e' w5 w6, qfr w5 → qfr w6 → I m s → e'.length ≤ e.length + 1 → QW (d + 1 + 1) mLa_law 852 (lLa_law_852 a4 w5 w6) [] (hpo X m s o' e') P) : QW (d + 1 + 1) mLa_law 216 (lLa_law_216 a4 w5 w6) [] (hpo X mem sw o e) P := by
  have tl : ∀ (a5 w : Int32) m s o' e', m 193 0 = a5 → (a5 = 0 → o' = Int32.toInt64 w) → I m s → e'.length ≤ e.length + 1 → QW (d + 1 + 1) mLa_law 275 (lLa_law_275 a4 a5 w6) [.int w] (hpo X m s o' e') P := by
    intro a5 w m s o' e' h1 h2 h3 h4
    have nn := nx m s o' e' (.val (.int a5)) (.val (.int w)) (Or.inr (Or.inl ⟨_, rfl⟩)) (Or.inr (Or.inl ⟨_, rfl⟩)) h3 h4
    exact bLa_law_275 hX hS hw6 (bMo_thrown_0 hX (qcl_i (bLa_law_281 hX hS (fun _ _ => bLa_law_305 hX hS nn) (fun _ _ _ => bLa_law_305 hX hS nn) (fun _ z zz => absurd (by rw [h2 z]; exact lgc _) zz) (fun z => absurd h1 z))))
  refine bLa_law_216 hX hS hw5 hw6 i1 i2 i3 i4 (bLa_insert_0 hX (kc _ ?_ ?_ ?_))
  · intro w m s ha
    exact qcl_i (bLa_insert_12 hX (qcl_i (bLa_law_245 hX hS hw5 hw6 i1 i2 i3 i4 (km0 w m s _ ha _ fun m' h1 h2 => qcl_i (tl _ _ _ _ _ _ h1 (fun _ => rfl) h2 (by omega))))))
  · intro m s hb
    exact tLa_insert_1 hX (qcl_i (bLa_law_245 hX hS hw5 hw6 i1 i2 i3 i4 (km1 m s _ hb _ fun w m' h1 h2 => qcl_i (tl _ _ _ _ _ _ h1 (fun z => absurd z (by decide)) h2 (by simp)))))
  · intro m s hb
    exact tLa_insert_2 hX (qcl_i (bLa_law_245 hX hS hw5 hw6 i1 i2 i3 i4 (km2 m s _ hb _ fun w m' h1 h2 => qcl_i (tl _ _ _ _ _ _ h1 (fun z => absurd z (by decide)) h2 (by simp)))))
theorem gLa_delete {xs : List Int32} {a4 : Int32} {w5 w6 : Slot} {I : (Nat → Nat → Int32) → Bool → Prop} {A : Int32 → (Nat → Nat → Int32) → Bool → Prop} {B1 : (Nat → Nat → Int32) → Bool → Prop} (hX : X.length = 13) (hS : X[0]? = some (80, xs.map Value.int)) (hw5 : qfr w5) (hw6 : qfr w6) (i1 : inx (a4 + 1) xs.length) (i2 : inx (a4 + 2) xs.length) (i3 : inx (a4 + 3) xs.length)
    (kc : ∀ Q : qE → Prop, (∀ w m s, A w m s → Q (.inl (some (.int w)), hpo X m s o e)) → (∀ m s, B1 m s → Q (.inr (225 + e.length), hpo X m s o (e ++ [20]))) → QW d mBp_delete 0 (qen 4 [.ref 13, .int (xs.getD (Int32.toNatClampNeg (a4 + 1)) 0), .int (xs.getD (Int32.toNatClampNeg (a4 + 2)) 0), .int (xs.getD (Int32.toNatClampNeg (a4 + 3)) 0)]) [] (hpo X mem sw o e) Q)
    (km0 : ∀ w m s o, A w m s → ∀ Q : qE → Prop, (∀ m', m' 193 0 = 0 → I m' s → Q (.inl (some (.int w)), hpo X m' s o e)) → QW (d + 1) mMo_delete 0 (qen 8 [.ref 193, .int (xs.getD (Int32.toNatClampNeg (a4 + 1)) 0), .int (xs.getD (Int32.toNatClampNeg (a4 + 2)) 0), .int (xs.getD (Int32.toNatClampNeg (a4 + 3)) 0)]) [] (hpo X m s o e) Q)
    (km1 : ∀ m s e', B1 m s → ∀ Q : qE → Prop, (∀ w m', m' 193 0 = 1 → I m' s → Q (.inl (some (.int w)), hpo X m' s o e')) → QW (d + 1) mMo_delete 0 (qen 8 [.ref 193, .int (xs.getD (Int32.toNatClampNeg (a4 + 1)) 0), .int (xs.getD (Int32.toNatClampNeg (a4 + 2)) 0), .int (xs.getD (Int32.toNatClampNeg (a4 + 3)) 0)]) [] (hpo X m s o e') Q)
    (nx : ∀ m s o' e' w5 w6, qfr w5 → qfr w6 → I m s → e'.length ≤ e.length + 1 → QW (d + 1 + 1) mLa_law 852 (lLa_law_852 a4 w5 w6) [] (hpo X m s o' e') P) : QW (d + 1 + 1) mLa_law 308 (lLa_law_308 a4 w5 w6) [] (hpo X mem sw o e) P := by
  have tl : ∀ (a5 w : Int32) m s o' e', m 193 0 = a5 → (a5 = 0 → o' = Int32.toInt64 w) → I m s → e'.length ≤ e.length + 1 → QW (d + 1 + 1) mLa_law 355 (lLa_law_355 a4 a5 w6) [.int w] (hpo X m s o' e') P := by
    intro a5 w m s o' e' h1 h2 h3 h4
    have nn := nx m s o' e' (.val (.int a5)) (.val (.int w)) (Or.inr (Or.inl ⟨_, rfl⟩)) (Or.inr (Or.inl ⟨_, rfl⟩)) h3 h4
    exact bLa_law_355 hX hS hw6 (bMo_thrown_0 hX (qcl_i (bLa_law_361 hX hS (fun _ _ => bLa_law_385 hX hS nn) (fun _ _ _ => bLa_law_385 hX hS nn) (fun _ z zz => absurd (by rw [h2 z]; exact lgc _) zz) (fun z => absurd h1 z))))
  refine bLa_law_308 hX hS hw5 hw6 i1 i2 i3 (bLa_delete_0 hX (kc _ ?_ ?_))
  · intro w m s ha
    exact qcl_i (bLa_delete_10 hX (qcl_i (bLa_law_331 hX hS hw5 hw6 i1 i2 i3 (km0 w m s _ ha _ fun m' h1 h2 => qcl_i (tl _ _ _ _ _ _ h1 (fun _ => rfl) h2 (by omega))))))
  · intro m s hb
    exact tLa_delete_1 hX (qcl_i (bLa_law_331 hX hS hw5 hw6 i1 i2 i3 (km1 m s _ hb _ fun w m' h1 h2 => qcl_i (tl _ _ _ _ _ _ h1 (fun z => absurd z (by decide)) h2 (by simp)))))
theorem gLa_question {xs : List Int32} {a4 : Int32} {w5 w6 : Slot} {I : (Nat → Nat → Int32) → Bool → Prop} {A : Int32 → (Nat → Nat → Int32) → Bool → Prop} {B1 B2 : (Nat → Nat → Int32) → Bool → Prop} (hX : X.length = 13) (hS : X[0]? = some (80, xs.map Value.int)) (hw5 : qfr w5) (hw6 : qfr w6) 
    (kc : ∀ Q : qE → Prop, (∀ w m s, A w m s → Q (.inl (some (.int w)), hpo X m s o e)) → (∀ m s, B1 m s → Q (.inr (225 + e.length), hpo X m s o (e ++ [20]))) → (∀ m s, B2 m s → Q (.inr (225 + e.length), hpo X m s o (e ++ [21]))) → QW d mBp_question 0 (qen 1 [.ref 13]) [] (hpo X mem sw o e) Q)
    (km0 : ∀ w m s o, A w m s → ∀ Q : qE → Prop, (∀ m', m' 193 0 = 0 → I m' s → Q (.inl (some (.int w)), hpo X m' s o e)) → QW (d + 1) mMo_question 0 (qen 3 [.ref 193]) [] (hpo X m s o e) Q)
    (km1 : ∀ m s e', B1 m s → ∀ Q : qE → Prop, (∀ w m', m' 193 0 = 1 → I m' s → Q (.inl (some (.int w)), hpo X m' s o e')) → QW (d + 1) mMo_question 0 (qen 3 [.ref 193]) [] (hpo X m s o e') Q)
    (km2 : ∀ m s e', B2 m s → ∀ Q : qE → Prop, (∀ w m', m' 193 0 = 2 → I m' s → Q (.inl (some (.int w)), hpo X m' s o e')) → QW (d + 1) mMo_question 0 (qen 3 [.ref 193]) [] (hpo X m s o e') Q)
    (nx : ∀ m s o' e' w5 w6, qfr w5 → qfr w6 → I m s → e'.length ≤ e.length + 1 → QW (d + 1 + 1) mLa_law 852 (lLa_law_852 a4 w5 w6) [] (hpo X m s o' e') P) : QW (d + 1 + 1) mLa_law 458 (lLa_law_458 a4 w5 w6) [] (hpo X mem sw o e) P := by
  have tl : ∀ (a5 w : Int32) m s o' e', m 193 0 = a5 → (a5 = 0 → o' = Int32.toInt64 w) → I m s → e'.length ≤ e.length + 1 → QW (d + 1 + 1) mLa_law 469 (lLa_law_469 a4 a5 w6) [.int w] (hpo X m s o' e') P := by
    intro a5 w m s o' e' h1 h2 h3 h4
    have nn := nx m s o' e' (.val (.int a5)) (.val (.int w)) (Or.inr (Or.inl ⟨_, rfl⟩)) (Or.inr (Or.inl ⟨_, rfl⟩)) h3 h4
    exact bLa_law_469 hX hS hw6 (bMo_thrown_0 hX (qcl_i (bLa_law_475 hX hS (fun _ _ => bLa_law_499 hX hS nn) (fun _ _ _ => bLa_law_499 hX hS nn) (fun _ z zz => absurd (by rw [h2 z]; exact lgc _) zz) (fun z => absurd h1 z))))
  refine bLa_law_458 hX hS hw5 hw6 (bLa_question_0 hX (kc _ ?_ ?_ ?_))
  · intro w m s ha
    exact qcl_i (bLa_question_6 hX (qcl_i (bLa_law_463 hX hS hw5 hw6 (km0 w m s _ ha _ fun m' h1 h2 => qcl_i (tl _ _ _ _ _ _ h1 (fun _ => rfl) h2 (by omega))))))
  · intro m s hb
    exact tLa_question_1 hX (qcl_i (bLa_law_463 hX hS hw5 hw6 (km1 m s _ hb _ fun w m' h1 h2 => qcl_i (tl _ _ _ _ _ _ h1 (fun z => absurd z (by decide)) h2 (by simp)))))
  · intro m s hb
    exact tLa_question_2 hX (qcl_i (bLa_law_463 hX hS hw5 hw6 (km2 m s _ hb _ fun w m' h1 h2 => qcl_i (tl _ _ _ _ _ _ h1 (fun z => absurd z (by decide)) h2 (by simp)))))
theorem gLa_run {xs : List Int32} {a4 : Int32} {w5 w6 : Slot} {I : (Nat → Nat → Int32) → Bool → Prop} {A : Int32 → (Nat → Nat → Int32) → Bool → Prop} {B1 B2 : (Nat → Nat → Int32) → Bool → Prop} (hX : X.length = 13) (hS : X[0]? = some (80, xs.map Value.int)) (hw5 : qfr w5) (hw6 : qfr w6) (i1 : inx (a4 + 1) xs.length)
    (kc : ∀ Q : qE → Prop, (∀ w m s, A w m s → Q (.inl (some (.int w)), hpo X m s o e)) → (∀ m s, B1 m s → Q (.inr (225 + e.length), hpo X m s o (e ++ [20]))) → (∀ m s, B2 m s → Q (.inr (225 + e.length), hpo X m s o (e ++ [22]))) → QW d mBp_run 0 (qen 3 [.ref 13, .int (xs.getD (Int32.toNatClampNeg (a4 + 1)) 0)]) [] (hpo X mem sw o e) Q)
    (km0 : ∀ w m s o, A w m s → ∀ Q : qE → Prop, (∀ m', m' 193 0 = 0 → I m' s → Q (.inl (some (.int w)), hpo X m' s o e)) → QW (d + 1) mMo_run 0 (qen 3 [.ref 193, .int (xs.getD (Int32.toNatClampNeg (a4 + 1)) 0)]) [] (hpo X m s o e) Q)
    (km1 : ∀ m s e', B1 m s → ∀ Q : qE → Prop, (∀ w m', m' 193 0 = 1 → I m' s → Q (.inl (some (.int w)), hpo X m' s o e')) → QW (d + 1) mMo_run 0 (qen 3 [.ref 193, .int (xs.getD (Int32.toNatClampNeg (a4 + 1)) 0)]) [] (hpo X m s o e') Q)
    (km2 : ∀ m s e', B2 m s → ∀ Q : qE → Prop, (∀ w m', m' 193 0 = 2 → I m' s → Q (.inl (some (.int w)), hpo X m' s o e')) → QW (d + 1) mMo_run 0 (qen 3 [.ref 193, .int (xs.getD (Int32.toNatClampNeg (a4 + 1)) 0)]) [] (hpo X m s o e') Q)
    (nx : ∀ m s o' e' w5 w6, qfr w5 → qfr w6 → I m s → e'.length ≤ e.length + 1 → QW (d + 1 + 1) mLa_law 852 (lLa_law_852 a4 w5 w6) [] (hpo X m s o' e') P) : QW (d + 1 + 1) mLa_law 528 (lLa_law_528 a4 w5 w6) [] (hpo X mem sw o e) P := by
  have tl : ∀ (a5 w : Int32) m s o' e', m 193 0 = a5 → (a5 = 0 → o' = Int32.toInt64 w) → I m s → e'.length ≤ e.length + 1 → QW (d + 1 + 1) mLa_law 551 (lLa_law_551 a4 a5 w6) [.int w] (hpo X m s o' e') P := by
    intro a5 w m s o' e' h1 h2 h3 h4
    have nn := nx m s o' e' (.val (.int a5)) (.val (.int w)) (Or.inr (Or.inl ⟨_, rfl⟩)) (Or.inr (Or.inl ⟨_, rfl⟩)) h3 h4
    exact bLa_law_551 hX hS hw6 (bMo_thrown_0 hX (qcl_i (bLa_law_557 hX hS (fun _ _ => bLa_law_581 hX hS nn) (fun _ _ _ => bLa_law_581 hX hS nn) (fun _ z zz => absurd (by rw [h2 z]; exact lgc _) zz) (fun z => absurd h1 z))))
  refine bLa_law_528 hX hS hw5 hw6 i1 (bLa_run_0 hX (kc _ ?_ ?_ ?_))
  · intro w m s ha
    exact qcl_i (bLa_run_7 hX (qcl_i (bLa_law_539 hX hS hw5 hw6 i1 (km0 w m s _ ha _ fun m' h1 h2 => qcl_i (tl _ _ _ _ _ _ h1 (fun _ => rfl) h2 (by omega))))))
  · intro m s hb
    exact tLa_run_1 hX (qcl_i (bLa_law_539 hX hS hw5 hw6 i1 (km1 m s _ hb _ fun w m' h1 h2 => qcl_i (tl _ _ _ _ _ _ h1 (fun z => absurd z (by decide)) h2 (by simp)))))
  · intro m s hb
    exact tLa_run_2 hX (qcl_i (bLa_law_539 hX hS hw5 hw6 i1 (km2 m s _ hb _ fun w m' h1 h2 => qcl_i (tl _ _ _ _ _ _ h1 (fun z => absurd z (by decide)) h2 (by simp)))))
theorem gLa_row {xs : List Int32} {a4 : Int32} {w5 w6 : Slot} {I : (Nat → Nat → Int32) → Bool → Prop} {A : Int32 → (Nat → Nat → Int32) → Bool → Prop} {B1 : (Nat → Nat → Int32) → Bool → Prop} (hX : X.length = 13) (hS : X[0]? = some (80, xs.map Value.int)) (hw5 : qfr w5) (hw6 : qfr w6) (i1 : inx (a4 + 1) xs.length) (i2 : inx (a4 + 2) xs.length)
    (kc : ∀ Q : qE → Prop, (∀ w m s, A w m s → Q (.inl (some (.int w)), hpo X m s o e)) → (∀ m s, B1 m s → Q (.inr (225 + e.length), hpo X m s o (e ++ [23]))) → QW d mBp_row 0 (qen 3 [.ref 13, .int (xs.getD (Int32.toNatClampNeg (a4 + 1)) 0), .int (xs.getD (Int32.toNatClampNeg (a4 + 2)) 0)]) [] (hpo X mem sw o e) Q)
    (km0 : ∀ w m s o, A w m s → ∀ Q : qE → Prop, (∀ m', m' 193 0 = 0 → I m' s → Q (.inl (some (.int w)), hpo X m' s o e)) → QW (d + 1) mMo_row 0 (qen 3 [.ref 193, .int (xs.getD (Int32.toNatClampNeg (a4 + 1)) 0), .int (xs.getD (Int32.toNatClampNeg (a4 + 2)) 0)]) [] (hpo X m s o e) Q)
    (km1 : ∀ m s e', B1 m s → ∀ Q : qE → Prop, (∀ w m', m' 193 0 = 1 → I m' s → Q (.inl (some (.int w)), hpo X m' s o e')) → QW (d + 1) mMo_row 0 (qen 3 [.ref 193, .int (xs.getD (Int32.toNatClampNeg (a4 + 1)) 0), .int (xs.getD (Int32.toNatClampNeg (a4 + 2)) 0)]) [] (hpo X m s o e') Q)
    (nx : ∀ m s o' e' w5 w6, qfr w5 → qfr w6 → I m s → e'.length ≤ e.length + 1 → QW (d + 1 + 1) mLa_law 852 (lLa_law_852 a4 w5 w6) [] (hpo X m s o' e') P) : QW (d + 1 + 1) mLa_law 584 (lLa_law_584 a4 w5 w6) [] (hpo X mem sw o e) P := by
  have tl : ∀ (a5 w : Int32) m s o' e', m 193 0 = a5 → (a5 = 0 → o' = Int32.toInt64 w) → I m s → e'.length ≤ e.length + 1 → QW (d + 1 + 1) mLa_law 619 (lLa_law_619 a4 a5 w6) [.int w] (hpo X m s o' e') P := by
    intro a5 w m s o' e' h1 h2 h3 h4
    have nn := nx m s o' e' (.val (.int a5)) (.val (.int w)) (Or.inr (Or.inl ⟨_, rfl⟩)) (Or.inr (Or.inl ⟨_, rfl⟩)) h3 h4
    exact bLa_law_619 hX hS hw6 (bMo_thrown_0 hX (qcl_i (bLa_law_625 hX hS (fun _ _ => bLa_law_649 hX hS nn) (fun _ _ _ => bLa_law_649 hX hS nn) (fun _ z zz => absurd (by rw [h2 z]; exact lgc _) zz) (fun z => absurd h1 z))))
  refine bLa_law_584 hX hS hw5 hw6 i1 i2 (bLa_row_0 hX (kc _ ?_ ?_))
  · intro w m s ha
    exact qcl_i (bLa_row_8 hX (qcl_i (bLa_law_601 hX hS hw5 hw6 i1 i2 (km0 w m s _ ha _ fun m' h1 h2 => qcl_i (tl _ _ _ _ _ _ h1 (fun _ => rfl) h2 (by omega))))))
  · intro m s hb
    exact tLa_row_1 hX (qcl_i (bLa_law_601 hX hS hw5 hw6 i1 i2 (km1 m s _ hb _ fun w m' h1 h2 => qcl_i (tl _ _ _ _ _ _ h1 (fun z => absurd z (by decide)) h2 (by simp)))))
theorem gLa_times {xs : List Int32} {a4 : Int32} {w5 w6 : Slot} {I : (Nat → Nat → Int32) → Bool → Prop} {A : Int32 → (Nat → Nat → Int32) → Bool → Prop} {B1 : (Nat → Nat → Int32) → Bool → Prop} (hX : X.length = 13) (hS : X[0]? = some (80, xs.map Value.int)) (hw5 : qfr w5) (hw6 : qfr w6) (i1 : inx (a4 + 1) xs.length)
    (kc : ∀ Q : qE → Prop, (∀ w m s, A w m s → Q (.inl (some (.int w)), hpo X m s o e)) → (∀ m s, B1 m s → Q (.inr (225 + e.length), hpo X m s o (e ++ [23]))) → QW d mBp_times 0 (qen 2 [.ref 13, .int (xs.getD (Int32.toNatClampNeg (a4 + 1)) 0)]) [] (hpo X mem sw o e) Q)
    (km0 : ∀ w m s o, A w m s → ∀ Q : qE → Prop, (∀ m', m' 193 0 = 0 → I m' s → Q (.inl (some (.int w)), hpo X m' s o e)) → QW (d + 1) mMo_times 0 (qen 2 [.ref 193, .int (xs.getD (Int32.toNatClampNeg (a4 + 1)) 0)]) [] (hpo X m s o e) Q)
    (km1 : ∀ m s e', B1 m s → ∀ Q : qE → Prop, (∀ w m', m' 193 0 = 1 → I m' s → Q (.inl (some (.int w)), hpo X m' s o e')) → QW (d + 1) mMo_times 0 (qen 2 [.ref 193, .int (xs.getD (Int32.toNatClampNeg (a4 + 1)) 0)]) [] (hpo X m s o e') Q)
    (nx : ∀ m s o' e' w5 w6, qfr w5 → qfr w6 → I m s → e'.length ≤ e.length + 1 → QW (d + 1 + 1) mLa_law 852 (lLa_law_852 a4 w5 w6) [] (hpo X m s o' e') P) : QW (d + 1 + 1) mLa_law 652 (lLa_law_652 a4 w5 w6) [] (hpo X mem sw o e) P := by
  have tl : ∀ (a5 w : Int32) m s o' e', m 193 0 = a5 → (a5 = 0 → o' = Int32.toInt64 w) → I m s → e'.length ≤ e.length + 1 → QW (d + 1 + 1) mLa_law 675 (lLa_law_675 a4 a5 w6) [.int w] (hpo X m s o' e') P := by
    intro a5 w m s o' e' h1 h2 h3 h4
    have nn := nx m s o' e' (.val (.int a5)) (.val (.int w)) (Or.inr (Or.inl ⟨_, rfl⟩)) (Or.inr (Or.inl ⟨_, rfl⟩)) h3 h4
    exact bLa_law_675 hX hS hw6 (bMo_thrown_0 hX (qcl_i (bLa_law_681 hX hS (fun _ _ => bLa_law_705 hX hS nn) (fun _ _ _ => bLa_law_705 hX hS nn) (fun _ z zz => absurd (by rw [h2 z]; exact lgc _) zz) (fun z => absurd h1 z))))
  refine bLa_law_652 hX hS hw5 hw6 i1 (bLa_times_0 hX (kc _ ?_ ?_))
  · intro w m s ha
    exact qcl_i (bLa_times_7 hX (qcl_i (bLa_law_663 hX hS hw5 hw6 i1 (km0 w m s _ ha _ fun m' h1 h2 => qcl_i (tl _ _ _ _ _ _ h1 (fun _ => rfl) h2 (by omega))))))
  · intro m s hb
    exact tLa_times_1 hX (qcl_i (bLa_law_663 hX hS hw5 hw6 i1 (km1 m s _ hb _ fun w m' h1 h2 => qcl_i (tl _ _ _ _ _ _ h1 (fun z => absurd z (by decide)) h2 (by simp)))))
theorem gLa_sources {xs : List Int32} {a4 : Int32} {w5 w6 : Slot} {I : (Nat → Nat → Int32) → Bool → Prop} {A : Int32 → (Nat → Nat → Int32) → Bool → Prop} {B1 B2 : (Nat → Nat → Int32) → Bool → Prop} (hX : X.length = 13) (hS : X[0]? = some (80, xs.map Value.int)) (hw5 : qfr w5) (hw6 : qfr w6) (i1 : inx (a4 + 1) xs.length)
    (kc : ∀ Q : qE → Prop, (∀ w m s, A w m s → Q (.inl (some (.int w)), hpo X m s o e)) → (∀ m s, B1 m s → Q (.inr (225 + e.length), hpo X m s o (e ++ [20]))) → (∀ m s, B2 m s → Q (.inr (225 + e.length), hpo X m s o (e ++ [22]))) → QW d mBp_sources 0 (qen 2 [.ref 13, .int (xs.getD (Int32.toNatClampNeg (a4 + 1)) 0)]) [] (hpo X mem sw o e) Q)
    (km0 : ∀ w m s o, A w m s → ∀ Q : qE → Prop, (∀ m', m' 193 0 = 0 → I m' s → Q (.inl (some (.int w)), hpo X m' s o e)) → QW (d + 1) mMo_sources 0 (qen 2 [.ref 193, .int (xs.getD (Int32.toNatClampNeg (a4 + 1)) 0)]) [] (hpo X m s o e) Q)
    (km1 : ∀ m s e', B1 m s → ∀ Q : qE → Prop, (∀ w m', m' 193 0 = 1 → I m' s → Q (.inl (some (.int w)), hpo X m' s o e')) → QW (d + 1) mMo_sources 0 (qen 2 [.ref 193, .int (xs.getD (Int32.toNatClampNeg (a4 + 1)) 0)]) [] (hpo X m s o e') Q)
    (km2 : ∀ m s e', B2 m s → ∀ Q : qE → Prop, (∀ w m', m' 193 0 = 2 → I m' s → Q (.inl (some (.int w)), hpo X m' s o e')) → QW (d + 1) mMo_sources 0 (qen 2 [.ref 193, .int (xs.getD (Int32.toNatClampNeg (a4 + 1)) 0)]) [] (hpo X m s o e') Q)
    (nx : ∀ m s o' e' w5 w6, qfr w5 → qfr w6 → I m s → e'.length ≤ e.length + 1 → QW (d + 1 + 1) mLa_law 852 (lLa_law_852 a4 w5 w6) [] (hpo X m s o' e') P) : QW (d + 1 + 1) mLa_law 796 (lLa_law_796 a4 w5 w6) [] (hpo X mem sw o e) P := by
  have tl : ∀ (a5 w : Int32) m s o' e', m 193 0 = a5 → (a5 = 0 → o' = Int32.toInt64 w) → I m s → e'.length ≤ e.length + 1 → QW (d + 1 + 1) mLa_law 819 (lLa_law_819 a4 a5 w6) [.int w] (hpo X m s o' e') P := by
    intro a5 w m s o' e' h1 h2 h3 h4
    have nn := nx m s o' e' (.val (.int a5)) (.val (.int w)) (Or.inr (Or.inl ⟨_, rfl⟩)) (Or.inr (Or.inl ⟨_, rfl⟩)) h3 h4
    exact bLa_law_819 hX hS hw6 (bMo_thrown_0 hX (qcl_i (bLa_law_825 hX hS (fun _ _ => bLa_law_849 hX hS nn) (fun _ _ _ => bLa_law_849 hX hS nn) (fun _ z zz => absurd (by rw [h2 z]; exact lgc _) zz) (fun z => absurd h1 z))))
  refine bLa_law_796 hX hS hw5 hw6 i1 (bLa_sources_0 hX (kc _ ?_ ?_ ?_))
  · intro w m s ha
    exact qcl_i (bLa_sources_7 hX (qcl_i (bLa_law_807 hX hS hw5 hw6 i1 (km0 w m s _ ha _ fun m' h1 h2 => qcl_i (tl _ _ _ _ _ _ h1 (fun _ => rfl) h2 (by omega))))))
  · intro m s hb
    exact tLa_sources_1 hX (qcl_i (bLa_law_807 hX hS hw5 hw6 i1 (km1 m s _ hb _ fun w m' h1 h2 => qcl_i (tl _ _ _ _ _ _ h1 (fun z => absurd z (by decide)) h2 (by simp)))))
  · intro m s hb
    exact tLa_sources_2 hX (qcl_i (bLa_law_807 hX hS hw5 hw6 i1 (km2 m s _ hb _ fun w m' h1 h2 => qcl_i (tl _ _ _ _ _ _ h1 (fun z => absurd z (by decide)) h2 (by simp)))))
theorem gLa_key {xs : List Int32} {a4 : Int32} {w5 w6 : Slot} {I : (Nat → Nat → Int32) → Bool → Prop} {A : (Nat → Nat → Int32) → Bool → Prop} {B1 B2 : (Nat → Nat → Int32) → Bool → Prop} (hX : X.length = 13) (hS : X[0]? = some (80, xs.map Value.int)) (hw5 : qfr w5) (hw6 : qfr w6) (i1 : inx (a4 + 1) xs.length) (i2 : inx (a4 + 2) xs.length)
    (kc : ∀ Q : qE → Prop, (∀ m s, A m s → Q (.inl none, hpo X m s o e)) → (∀ m s, B1 m s → Q (.inr (225 + e.length), hpo X m s o (e ++ [20]))) → (∀ m s, B2 m s → Q (.inr (225 + e.length), hpo X m s o (e ++ [21]))) → QW d mBp_key 0 (qen 4 [.ref 13, .int (xs.getD (Int32.toNatClampNeg (a4 + 1)) 0), .int (xs.getD (Int32.toNatClampNeg (a4 + 2)) 0)]) [] (hpo X mem sw o e) Q)
    (km0 : ∀ m s o, A m s → ∀ Q : qE → Prop, (∀ m', m' 193 0 = 0 → I m' s → Q (.inl none, hpo X m' s o e)) → QW (d + 1) mMo_key 0 (qen 4 [.ref 193, .int (xs.getD (Int32.toNatClampNeg (a4 + 1)) 0), .int (xs.getD (Int32.toNatClampNeg (a4 + 2)) 0)]) [] (hpo X m s o e) Q)
    (km1 : ∀ m s e', B1 m s → ∀ Q : qE → Prop, (∀ m', m' 193 0 = 1 → I m' s → Q (.inl none, hpo X m' s o e')) → QW (d + 1) mMo_key 0 (qen 4 [.ref 193, .int (xs.getD (Int32.toNatClampNeg (a4 + 1)) 0), .int (xs.getD (Int32.toNatClampNeg (a4 + 2)) 0)]) [] (hpo X m s o e') Q)
    (km2 : ∀ m s e', B2 m s → ∀ Q : qE → Prop, (∀ m', m' 193 0 = 2 → I m' s → Q (.inl none, hpo X m' s o e')) → QW (d + 1) mMo_key 0 (qen 4 [.ref 193, .int (xs.getD (Int32.toNatClampNeg (a4 + 1)) 0), .int (xs.getD (Int32.toNatClampNeg (a4 + 2)) 0)]) [] (hpo X m s o e') Q)
    (nx : ∀ m s o' e' w5 w6, qfr w5 → qfr w6 → I m s → e'.length ≤ e.length + 1 → QW (d + 1 + 1) mLa_law 852 (lLa_law_852 a4 w5 w6) [] (hpo X m s o' e') P) : QW (d + 1 + 1) mLa_law 168 (lLa_law_168 a4 w5 w6) [] (hpo X mem sw o e) P := by
  have tl : ∀ (a5 : Int32) m s o' e', m 193 0 = a5 → I m s → e'.length ≤ e.length + 1 → QW (d + 1 + 1) mLa_law 202 (lLa_law_202 a4 a5 w6) [] (hpo X m s o' e') P := by
    intro a5 m s o' e' h1 h3 h4
    have nn := nx m s o' e' (.val (.int a5)) w6 (Or.inr (Or.inl ⟨_, rfl⟩)) hw6 h3 h4
    exact bLa_law_202 hX hS hw6 (bMo_thrown_0 hX (qcl_i (bLa_law_206 hX hS hw6 (fun _ => nn) (fun z => absurd h1 z))))
  refine bLa_law_168 hX hS hw5 hw6 i1 i2 (bLa_key_0 hX (kc _ ?_ ?_ ?_))
  · intro m s ha
    exact qcl_v (bLa_key_6 hX (qcl_i (bLa_law_184 hX hS hw5 hw6 i1 i2 (km0 m s _ ha _ fun m' h1 h2 => qcl_v (tl _ _ _ _ _ h1 h2 (by omega))))))
  · intro m s hb
    exact tLa_key_1 hX (qcl_i (bLa_law_184 hX hS hw5 hw6 i1 i2 (km1 m s _ hb _ fun m' h1 h2 => qcl_v (tl _ _ _ _ _ h1 h2 (by simp)))))
  · intro m s hb
    exact tLa_key_2 hX (qcl_i (bLa_law_184 hX hS hw5 hw6 i1 i2 (km2 m s _ hb _ fun m' h1 h2 => qcl_v (tl _ _ _ _ _ h1 h2 (by simp)))))
theorem gLa_alike {xs : List Int32} {a4 : Int32} {w5 w6 : Slot} {I : (Nat → Nat → Int32) → Bool → Prop} {A : Int32 → (Nat → Nat → Int32) → Bool → Prop} {B1 B2 : (Nat → Nat → Int32) → Bool → Prop} (hX : X.length = 13) (hS : X[0]? = some (80, xs.map Value.int)) (hw5 : qfr w5) (hw6 : qfr w6) (i1 : inx (a4 + 1) xs.length) (i2 : inx (a4 + 2) xs.length)
    (kc : ∀ Q : qE → Prop, (∀ w m s, A w m s → Q (.inl (some (.int w)), hpo X m s o e)) → (∀ m s, B1 m s → Q (.inr (225 + e.length), hpo X m s o (e ++ [20]))) → (∀ m s, B2 m s → Q (.inr (225 + e.length), hpo X m s o (e ++ [22]))) → QW d mBp_alike 0 (qen 5 [.ref 13, .int (xs.getD (Int32.toNatClampNeg (a4 + 1)) 0), .int (xs.getD (Int32.toNatClampNeg (a4 + 2)) 0)]) [] (hpo X mem sw o e) Q)
    (km0 : ∀ w m s o, A w m s → ∀ Q : qE → Prop, (∀ w' m', (w = 0 ↔ w' = 0) → m' 193 0 = 0 → I m' s → Q (.inl (some (.int w')), hpo X m' s o e)) → QW (d + 1) mMo_alike 0 (qen 8 [.ref 193, .int (xs.getD (Int32.toNatClampNeg (a4 + 1)) 0), .int (xs.getD (Int32.toNatClampNeg (a4 + 2)) 0)]) [] (hpo X m s o e) Q)
    (km1 : ∀ m s e', B1 m s → ∀ Q : qE → Prop, (∀ w m', m' 193 0 = 1 → I m' s → Q (.inl (some (.int w)), hpo X m' s o e')) → QW (d + 1) mMo_alike 0 (qen 8 [.ref 193, .int (xs.getD (Int32.toNatClampNeg (a4 + 1)) 0), .int (xs.getD (Int32.toNatClampNeg (a4 + 2)) 0)]) [] (hpo X m s o e') Q)
    (km2 : ∀ m s e', B2 m s → ∀ Q : qE → Prop, (∀ w m', m' 193 0 = 2 → I m' s → Q (.inl (some (.int w)), hpo X m' s o e')) → QW (d + 1) mMo_alike 0 (qen 8 [.ref 193, .int (xs.getD (Int32.toNatClampNeg (a4 + 1)) 0), .int (xs.getD (Int32.toNatClampNeg (a4 + 2)) 0)]) [] (hpo X m s o e') Q)
    (nx : ∀ m s o' e' w5 w6, qfr w5 → qfr w6 → I m s → e'.length ≤ e.length + 1 → QW (d + 1 + 1) mLa_law 852 (lLa_law_852 a4 w5 w6) [] (hpo X m s o' e') P) : QW (d + 1 + 1) mLa_law 721 (lLa_law_721 a4 w5 w6) [] (hpo X mem sw o e) P := by
  have tl : ∀ (a5 w : Int32) m s (o' : Int64) e', m 193 0 = a5 → (a5 = 0 → o' = if w = 0 then 0 else 1) → I m s → e'.length ≤ e.length + 1 → QW (d + 1 + 1) mLa_law 756 (lLa_law_756 a4 a5 w6) [.int w] (hpo X m s o' e') P := by
    intro a5 w m s o' e' h1 h2 h3 h4
    have nn := nx m s o' e' (.val (.int a5)) (.val (.int w)) (Or.inr (Or.inl ⟨_, rfl⟩)) (Or.inr (Or.inl ⟨_, rfl⟩)) h3 h4
    exact bLa_law_756 hX hS hw6 (bMo_thrown_0 hX (qcl_i (bLa_law_762 hX hS (fun _ _ => bLa_law_793 hX hS nn)
      (fun _ z zz => bLa_law_787 hX hS (fun _ => bLa_law_793 hX hS nn) (fun y => absurd (by rw [h2 z, if_pos zz]; exact lgc _) y))
      (fun _ z zz => bLa_law_787 hX hS (fun _ => bLa_law_793 hX hS nn) (fun y => absurd (by rw [h2 z, if_neg zz]; exact lgc _) y))
      (fun z => absurd h1 z))))
  refine bLa_law_721 hX hS hw5 hw6 i1 i2 (bLa_alike_0 hX (kc _ ?_ ?_ ?_))
  · intro w m s ha
    refine qcl_i (bLa_alike_8 hX (fun hz => bLa_alike_16 hX (qcl_i (bLa_law_738 hX hS hw5 hw6 i1 i2 (km0 w m s _ ha _ fun w' m' hh h1 h2 => qcl_i (tl _ _ _ _ _ _ h1 (fun _ => ?_) h2 (by omega)))))) (fun hz => bLa_alike_16 hX (qcl_i (bLa_law_738 hX hS hw5 hw6 i1 i2 (km0 w m s _ ha _ fun w' m' hh h1 h2 => qcl_i (tl _ _ _ _ _ _ h1 (fun _ => ?_) h2 (by omega)))))))
    · rw [if_pos (hh.mp hz)]
    · rw [if_neg (fun y => hz (hh.mpr y))]
  · intro m s hb
    exact tLa_alike_1 hX (qcl_i (bLa_law_738 hX hS hw5 hw6 i1 i2 (km1 m s _ hb _ fun w m' h1 h2 => qcl_i (tl _ _ _ _ _ _ h1 (fun z => absurd z (by decide)) h2 (by simp)))))
  · intro m s hb
    exact tLa_alike_2 hX (qcl_i (bLa_law_738 hX hS hw5 hw6 i1 i2 (km2 m s _ hb _ fun w m' h1 h2 => qcl_i (tl _ _ _ _ _ _ h1 (fun z => absurd z (by decide)) h2 (by simp)))))
theorem gLa_write {xs : List Int32} {a4 : Int32} {w5 w6 : Slot} {I : (Nat → Nat → Int32) → Prop} {A : Int32 → (Nat → Nat → Int32) → Prop} (hX : X.length = 13) (hS : X[0]? = some (80, xs.map Value.int)) (hw5 : qfr w5) (hw6 : qfr w6) (i1 : inx (a4 + 1) xs.length) (i2 : inx (a4 + 2) xs.length)
    (kc : ∀ Q : qE → Prop, (∀ w m, A w m → Q (.inl (some (.int w)), hpo X m sw o e)) → QW (d + 1) mBp_write 0 (qen 3 [.ref 13, .long (((Int32.toInt64 (xs.getD (Int32.toNatClampNeg (a4 + 1)) 0)) <<< ((Int32.toInt64 32) &&& 63)) ||| ((Int32.toInt64 (xs.getD (Int32.toNatClampNeg (a4 + 2)) 0)) &&& 4294967295))]) [] (hpo X mem sw o e) Q)
    (km : ∀ w m, A w m → ∀ Q : qE → Prop, (∀ m', I m' → Q (.inl (some (.int w)), hpo X m' sw o e)) → QW (d + 1) mMo_write 0 (qen 6 [.ref 193, .long (((Int32.toInt64 (xs.getD (Int32.toNatClampNeg (a4 + 1)) 0)) <<< ((Int32.toInt64 32) &&& 63)) ||| ((Int32.toInt64 (xs.getD (Int32.toNatClampNeg (a4 + 2)) 0)) &&& 4294967295))]) [] (hpo X m sw o e) Q)
    (nx : ∀ m, I m → QW (d + 1 + 1) mLa_law 852 (lLa_law_852 a4 w5 w6) [] (hpo X m sw o e) P) : QW (d + 1 + 1) mLa_law 388 (lLa_law_388 a4 w5 w6) [] (hpo X mem sw o e) P := by
  refine bLa_law_388 hX hS hw5 hw6 i1 i2 (kc _ fun w m ha => qcl_i (bLa_law_414 hX hS hw5 hw6 i1 i2 (km w m ha _ fun m' h => qcl_i (bLa_law_440 hX hS hw5 hw6 (fun _ => nx m' h) (fun z => absurd rfl z)))))
theorem gLa_wipe {xs : List Int32} {a4 : Int32} {w5 w6 : Slot} {I : (Nat → Nat → Int32) → Prop} {A : Int32 → (Nat → Nat → Int32) → Prop} (hX : X.length = 13) (hS : X[0]? = some (80, xs.map Value.int)) (hw5 : qfr w5) (hw6 : qfr w6) 
    (kc : ∀ Q : qE → Prop, (∀ w m, A w m → Q (.inl (some (.int w)), hpo X m sw o e)) → QW (d + 1) mBp_wipe 0 (qen 1 [.ref 13]) [] (hpo X mem sw o e) Q)
    (km : ∀ w m, A w m → ∀ Q : qE → Prop, (∀ m', I m' → Q (.inl (some (.int w)), hpo X m' sw o e)) → QW (d + 1) mMo_wipe 0 (qen 2 [.ref 193]) [] (hpo X m sw o e) Q)
    (nx : ∀ m, I m → QW (d + 1 + 1) mLa_law 852 (lLa_law_852 a4 w5 w6) [] (hpo X m sw o e) P) : QW (d + 1 + 1) mLa_law 445 (lLa_law_445 a4 w5 w6) [] (hpo X mem sw o e) P := by
  refine bLa_law_445 hX hS hw5 hw6 (kc _ fun w m ha => qcl_i (bLa_law_449 hX hS hw5 hw6 (km w m ha _ fun m' h => qcl_i (bLa_law_453 hX hS hw5 hw6 (fun _ => nx m' h) (fun z => absurd rfl z)))))
theorem gLa_place {xs : List Int32} {a4 : Int32} {w5 w6 : Slot} {I : (Nat → Nat → Int32) → Prop} {A : Int32 → (Nat → Nat → Int32) → Prop} (hX : X.length = 13) (hS : X[0]? = some (80, xs.map Value.int)) (hw5 : qfr w5) (hw6 : qfr w6) 
    (kc : ∀ Q : qE → Prop, (∀ w m, A w m → Q (.inl (some (.int w)), hpo X m sw o e)) → QW (d + 1) mBp_place 0 (qen 1 [.ref 13]) [] (hpo X mem sw o e) Q)
    (km : ∀ w m, A w m → ∀ Q : qE → Prop, (∀ m', I m' → Q (.inl (some (.int w)), hpo X m' sw o e)) → QW (d + 1) mMo_place 0 (qen 1 [.ref 193]) [] (hpo X m sw o e) Q)
    (nx : ∀ m, I m → QW (d + 1 + 1) mLa_law 852 (lLa_law_852 a4 w5 w6) [] (hpo X m sw o e) P) : QW (d + 1 + 1) mLa_law 502 (lLa_law_502 a4 w5 w6) [] (hpo X mem sw o e) P := by
  refine bLa_law_502 hX hS hw5 hw6 (kc _ fun w m ha => qcl_i (bLa_law_506 hX hS hw5 hw6 (km w m ha _ fun m' h => qcl_i (bLa_law_510 hX hS hw5 hw6 (fun _ => nx m' h) (fun z => absurd rfl z)))))
theorem gLa_forget {xs : List Int32} {a4 : Int32} {w5 w6 : Slot} {I : (Nat → Nat → Int32) → Prop} {A : Int32 → (Nat → Nat → Int32) → Prop} (hX : X.length = 13) (hS : X[0]? = some (80, xs.map Value.int)) (hw5 : qfr w5) (hw6 : qfr w6) 
    (kc : ∀ Q : qE → Prop, (∀ w m, A w m → Q (.inl (some (.int w)), hpo X m sw o e)) → QW (d + 1) mBp_forget 0 (qen 2 [.ref 13]) [] (hpo X mem sw o e) Q)
    (km : ∀ w m, A w m → ∀ Q : qE → Prop, (∀ m', I m' → Q (.inl (some (.int w)), hpo X m' sw o e)) → QW (d + 1) mMo_forget 0 (qen 2 [.ref 193]) [] (hpo X m sw o e) Q)
    (nx : ∀ m, I m → QW (d + 1 + 1) mLa_law 852 (lLa_law_852 a4 w5 w6) [] (hpo X m sw o e) P) : QW (d + 1 + 1) mLa_law 515 (lLa_law_515 a4 w5 w6) [] (hpo X mem sw o e) P := by
  refine bLa_law_515 hX hS hw5 hw6 (kc _ fun w m ha => qcl_i (bLa_law_519 hX hS hw5 hw6 (km w m ha _ fun m' h => qcl_i (bLa_law_523 hX hS hw5 hw6 (fun _ => nx m' h) (fun z => absurd rfl z)))))
theorem gLa_total {xs : List Int32} {a4 : Int32} {w5 w6 : Slot} {I : (Nat → Nat → Int32) → Prop} {A : Int32 → (Nat → Nat → Int32) → Prop} (hX : X.length = 13) (hS : X[0]? = some (80, xs.map Value.int)) (hw5 : qfr w5) (hw6 : qfr w6) 
    (kc : ∀ Q : qE → Prop, (∀ w m, A w m → Q (.inl (some (.int w)), hpo X m sw o e)) → QW (d + 1) mBp_total 0 (qen 1 [.ref 13]) [] (hpo X mem sw o e) Q)
    (km : ∀ w m, A w m → ∀ Q : qE → Prop, (∀ m', I m' → Q (.inl (some (.int w)), hpo X m' sw o e)) → QW (d + 1) mMo_total 0 (qen 3 [.ref 193]) [] (hpo X m sw o e) Q)
    (nx : ∀ m, I m → QW (d + 1 + 1) mLa_law 852 (lLa_law_852 a4 w5 w6) [] (hpo X m sw o e) P) : QW (d + 1 + 1) mLa_law 708 (lLa_law_708 a4 w5 w6) [] (hpo X mem sw o e) P := by
  refine bLa_law_708 hX hS hw5 hw6 (kc _ fun w m ha => qcl_i (bLa_law_712 hX hS hw5 hw6 (km w m ha _ fun m' h => qcl_i (bLa_law_716 hX hS hw5 hw6 (fun _ => nx m' h) (fun z => absurd rfl z)))))
end CAS
