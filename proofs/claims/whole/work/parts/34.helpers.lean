section LHP
variable {d : Nat} {P : qE → Prop} {X : qH} {mem : Nat → Nat → Int32} {sw : Bool} {o : Int64} {e : List Nat}
theorem tLa_table_1 {a1 : Int32} (hX : X.length = 13) (k : P (.inl (some (.int 1)), hpo X mem sw o (e ++ [20]))) : qcl d mLa_table 4 7 (lLa_table_7 a1) [.int 0, .ref 224] P (.inr (225 + e.length), hpo X mem sw o (e ++ [20])) :=
  qcl_t (MW.catch1 hX rfl (by decide) (by decide) (by decide) xl_13 rfl (bLa_table_12 hX k))
theorem tLa_table_2 {a1 : Int32} (hX : X.length = 13) (k : P (.inl (some (.int 2)), hpo X mem sw o (e ++ [21]))) : qcl d mLa_table 4 7 (lLa_table_7 a1) [.int 0, .ref 224] P (.inr (225 + e.length), hpo X mem sw o (e ++ [21])) :=
  qcl_t (MW.catch2 hX rfl (by decide) xl_13 xn_21_20 (by decide) (by decide) (by decide) xl_15 rfl (bLa_table_15 hX k))
theorem tLa_key_1 {a1 : Int32} {a2 : Int32} (hX : X.length = 13) (k : P (.inl (some (.int 1)), hpo X mem sw o (e ++ [20]))) : qcl d mLa_key 3 6 (lLa_key_6 a1 a2) [] P (.inr (225 + e.length), hpo X mem sw o (e ++ [20])) :=
  qcl_t (MW.catch1 hX rfl (by decide) (by decide) (by decide) xl_13 rfl (bLa_key_9 hX k))
theorem tLa_key_2 {a1 : Int32} {a2 : Int32} (hX : X.length = 13) (k : P (.inl (some (.int 2)), hpo X mem sw o (e ++ [21]))) : qcl d mLa_key 3 6 (lLa_key_6 a1 a2) [] P (.inr (225 + e.length), hpo X mem sw o (e ++ [21])) :=
  qcl_t (MW.catch2 hX rfl (by decide) xl_13 xn_21_20 (by decide) (by decide) (by decide) xl_15 rfl (bLa_key_12 hX k))
theorem tLa_insert_1 {a1 : Int32} {a2 : Int32} {a3 : Int32} {a4 : Int32} (hX : X.length = 13) (k : P (.inl (some (.int 1)), hpo X mem sw o (e ++ [20]))) : qcl d mLa_insert 9 12 (lLa_insert_12 a1 a2 a3 a4) [.int 0, .ref 224] P (.inr (225 + e.length), hpo X mem sw o (e ++ [20])) :=
  qcl_t (MW.catch1 hX rfl (by decide) (by decide) (by decide) xl_13 rfl (bLa_insert_17 hX k))
theorem tLa_insert_2 {a1 : Int32} {a2 : Int32} {a3 : Int32} {a4 : Int32} (hX : X.length = 13) (k : P (.inl (some (.int 2)), hpo X mem sw o (e ++ [21]))) : qcl d mLa_insert 9 12 (lLa_insert_12 a1 a2 a3 a4) [.int 0, .ref 224] P (.inr (225 + e.length), hpo X mem sw o (e ++ [21])) :=
  qcl_t (MW.catch2 hX rfl (by decide) xl_13 xn_21_20 (by decide) (by decide) (by decide) xl_15 rfl (bLa_insert_21 hX k))
theorem tLa_delete_1 {a1 : Int32} {a2 : Int32} {a3 : Int32} (hX : X.length = 13) (k : P (.inl (some (.int 1)), hpo X mem sw o (e ++ [20]))) : qcl d mLa_delete 7 10 (lLa_delete_10 a1 a2 a3) [.int 0, .ref 224] P (.inr (225 + e.length), hpo X mem sw o (e ++ [20])) :=
  qcl_t (MW.catch1 hX rfl (by decide) (by decide) (by decide) xl_13 rfl (bLa_delete_15 hX k))
theorem tLa_question_1 (hX : X.length = 13) (k : P (.inl (some (.int 1)), hpo X mem sw o (e ++ [20]))) : qcl d mLa_question 3 6 lLa_question_6 [.int 0, .ref 224] P (.inr (225 + e.length), hpo X mem sw o (e ++ [20])) :=
  qcl_t (MW.catch1 hX rfl (by decide) (by decide) (by decide) xl_13 rfl (bLa_question_11 hX k))
theorem tLa_question_2 (hX : X.length = 13) (k : P (.inl (some (.int 2)), hpo X mem sw o (e ++ [21]))) : qcl d mLa_question 3 6 lLa_question_6 [.int 0, .ref 224] P (.inr (225 + e.length), hpo X mem sw o (e ++ [21])) :=
  qcl_t (MW.catch2 hX rfl (by decide) xl_13 xn_21_20 (by decide) (by decide) (by decide) xl_15 rfl (bLa_question_14 hX k))
theorem tLa_run_1 {a1 : Int32} (hX : X.length = 13) (k : P (.inl (some (.int 1)), hpo X mem sw o (e ++ [20]))) : qcl d mLa_run 4 7 (lLa_run_7 a1) [.int 0, .ref 224] P (.inr (225 + e.length), hpo X mem sw o (e ++ [20])) :=
  qcl_t (MW.catch1 hX rfl (by decide) (by decide) (by decide) xl_13 rfl (bLa_run_12 hX k))
theorem tLa_run_2 {a1 : Int32} (hX : X.length = 13) (k : P (.inl (some (.int 2)), hpo X mem sw o (e ++ [22]))) : qcl d mLa_run 4 7 (lLa_run_7 a1) [.int 0, .ref 224] P (.inr (225 + e.length), hpo X mem sw o (e ++ [22])) :=
  qcl_t (MW.catch2 hX rfl (by decide) xl_13 xn_22_20 (by decide) (by decide) (by decide) xl_36 rfl (bLa_run_15 hX k))
theorem tLa_row_1 {a1 : Int32} {a2 : Int32} (hX : X.length = 13) (k : P (.inl (some (.int 1)), hpo X mem sw o (e ++ [23]))) : qcl d mLa_row 5 8 (lLa_row_8 a1 a2) [.int 0, .ref 224] P (.inr (225 + e.length), hpo X mem sw o (e ++ [23])) :=
  qcl_t (MW.catch1 hX rfl (by decide) (by decide) (by decide) xl_42 rfl (bLa_row_13 hX k))
theorem tLa_times_1 {a1 : Int32} (hX : X.length = 13) (k : P (.inl (some (.int 1)), hpo X mem sw o (e ++ [23]))) : qcl d mLa_times 4 7 (lLa_times_7 a1) [.int 0, .ref 224] P (.inr (225 + e.length), hpo X mem sw o (e ++ [23])) :=
  qcl_t (MW.catch1 hX rfl (by decide) (by decide) (by decide) xl_42 rfl (bLa_times_12 hX k))
theorem tLa_alike_1 {a1 : Int32} {a2 : Int32} (hX : X.length = 13) (k : P (.inl (some (.int 1)), hpo X mem sw o (e ++ [20]))) : qcl d mLa_alike 5 8 (lLa_alike_8 a1 a2) [.int 0, .ref 224] P (.inr (225 + e.length), hpo X mem sw o (e ++ [20])) :=
  qcl_t (MW.catch1 hX rfl (by decide) (by decide) (by decide) xl_13 rfl (bLa_alike_20 hX k))
theorem tLa_alike_2 {a1 : Int32} {a2 : Int32} (hX : X.length = 13) (k : P (.inl (some (.int 2)), hpo X mem sw o (e ++ [22]))) : qcl d mLa_alike 5 8 (lLa_alike_8 a1 a2) [.int 0, .ref 224] P (.inr (225 + e.length), hpo X mem sw o (e ++ [22])) :=
  qcl_t (MW.catch2 hX rfl (by decide) xl_13 xn_22_20 (by decide) (by decide) (by decide) xl_36 rfl (bLa_alike_24 hX k))
theorem tLa_sources_1 {a1 : Int32} (hX : X.length = 13) (k : P (.inl (some (.int 1)), hpo X mem sw o (e ++ [20]))) : qcl d mLa_sources 4 7 (lLa_sources_7 a1) [.int 0, .ref 224] P (.inr (225 + e.length), hpo X mem sw o (e ++ [20])) :=
  qcl_t (MW.catch1 hX rfl (by decide) (by decide) (by decide) xl_13 rfl (bLa_sources_12 hX k))
theorem tLa_sources_2 {a1 : Int32} (hX : X.length = 13) (k : P (.inl (some (.int 2)), hpo X mem sw o (e ++ [22]))) : qcl d mLa_sources 4 7 (lLa_sources_7 a1) [.int 0, .ref 224] P (.inr (225 + e.length), hpo X mem sw o (e ++ [22])) :=
  qcl_t (MW.catch2 hX rfl (by decide) xl_13 xn_22_20 (by decide) (by decide) (by decide) xl_36 rfl (bLa_sources_15 hX k))
end LHP
