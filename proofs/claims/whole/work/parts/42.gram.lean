/-- the tokens that lie in the class's cells: N is the end's number -/
def qTk (mem : Nat → Nat → Int32) (N : Nat) (K : Nat → Int32) (S : Nat → Nat) (V : Nat → Int32) : Prop := N ≤ 200 ∧ mem 31 3 = qi (N + 1) ∧ (∀ n, n ≤ N → mem 32 n = K n ∧ mem 33 n = qi (S n) ∧ mem 34 n = V n) ∧ K N = 0
/-- a value read at n: its name (0: none) and number, and where it ends -/
def pv (K V : Nat → Int32) (n : Nat) : Option (Int32 × Int32) × Nat :=
  if K n = 45 then (if K (n + 1) = 5 then (some (0, -(V (n + 1))), n + 2) else (none, n + 1))
  else if K n = 5 then (some (0, V n), n + 1)
  else if K n = 3 then (if K (n + 1) = 46 then (if K (n + 2) = 5 then (some (V n, V (n + 2)), n + 3) else (none, n + 2)) else (none, n + 1))
  else (none, n)
section GRA
variable {d : Nat} {P : qE → Prop} {X : qH} {mem mem' : Nat → Nat → Int32} {sw : Bool} {o : Int64} {e : List Nat} {N n : Nat} {K V : Nat → Int32} {S : Nat → Nat}
theorem qTk_mono (e1 : mem' 31 3 = mem 31 3) (e2 : ∀ j q, 32 ≤ j → j < 35 → mem' j q = mem j q) (h : qTk mem N K S V) : qTk mem' N K S V := by
  obtain ⟨h1, h2, h3, h4⟩ := h
  refine ⟨h1, by rw [e1]; exact h2, fun n hn => ?_, h4⟩
  rw [e2 _ _ (by omega) (by omega), e2 _ _ (by omega) (by omega), e2 _ _ (by omega) (by omega)]
  exact h3 n hn
theorem cTok_take {a : Int32} (hX : X.length = 13) (ht : qTk mem N K S V) (hn : mem 31 4 = qi n) (hN : n ≤ N) (ha : ¬ a = 0) (k1 : K n = a → n < N → P (.inl (some (.int 1)), hpo X (mup mem 31 4 (qi (n + 1))) sw o e)) (k0 : ¬ K n = a → P (.inl (some (.int 0)), hpo X mem sw o e)) : QW d mTok_take 0 (qen 2 [.ref 31, .int a]) [] (hpo X mem sw o e) P := by
  obtain ⟨h1, h2, h3, h4⟩ := ht
  have hk := (h3 n hN).1
  have hlt : K n = a → n < N := fun h => by
    rcases Nat.lt_or_eq_of_le hN with h' | h'
    · exact h'
    · subst h'
      exact absurd (h.symm.trans h4) ha
  refine bTok_take_0 hX (by rw [hn]; exact qi_inx (by omega) (by omega)) ?_ ?_ ?_
  · intro x y
    rw [hn, qi_N (by omega), hk] at x
    rw [hn, h2, qi_1, qi_le (by omega) (by omega)] at y
    have := hlt x
    omega
  · intro x _
    rw [hn, qi_N (by omega), hk] at x
    rw [hn, qi_1]
    exact k1 x (hlt x)
  · intro x
    rw [hn, qi_N (by omega), hk] at x
    exact k0 x
theorem cTok_is {a : Int32} (hX : X.length = 13) (ht : qTk mem N K S V) (hn : mem 31 4 = qi n) (hN : n ≤ N) (k1 : K n = a → P (.inl (some (.int 1)), hpo X mem sw o e)) (k0 : ¬ K n = a → P (.inl (some (.int 0)), hpo X mem sw o e)) : QW d mTok_is 0 (qen 2 [.ref 31, .int a]) [] (hpo X mem sw o e) P := by
  obtain ⟨h1, h2, h3, h4⟩ := ht
  have hk := (h3 n hN).1
  refine bTok_is_0 hX (by rw [hn]; exact qi_inx (by omega) (by omega)) ?_ ?_
  · intro x
    rw [hn, qi_N (by omega), hk] at x
    exact k0 x
  · intro x
    rw [hn, qi_N (by omega), hk] at x
    exact k1 x
theorem cTok_kind (hX : X.length = 13) (ht : qTk mem N K S V) (hn : mem 31 4 = qi n) (hN : n ≤ N) (k : P (.inl (some (.int (K n))), hpo X mem sw o e)) : QW d mTok_kind 0 (qen 1 [.ref 31]) [] (hpo X mem sw o e) P := by
  obtain ⟨h1, h2, h3, h4⟩ := ht
  refine bTok_kind_0 hX (by rw [hn]; exact qi_inx (by omega) (by omega)) ?_
  rw [hn, qi_N (by omega), (h3 n hN).1]
  exact k
theorem cTok_start (hX : X.length = 13) (ht : qTk mem N K S V) (hn : mem 31 4 = qi n) (hN : n ≤ N) (k : P (.inl (some (.int (qi (S n)))), hpo X mem sw o e)) : QW d mTok_start 0 (qen 1 [.ref 31]) [] (hpo X mem sw o e) P := by
  obtain ⟨h1, h2, h3, h4⟩ := ht
  refine bTok_start_0 hX (by rw [hn]; exact qi_inx (by omega) (by omega)) ?_
  rw [hn, qi_N (by omega), (h3 n hN).2.1]
  exact k
theorem cTok_value (hX : X.length = 13) (ht : qTk mem N K S V) (hn : mem 31 4 = qi n) (hN : n ≤ N) (k : P (.inl (some (.int (V n))), hpo X mem sw o e)) : QW d mTok_value 0 (qen 1 [.ref 31]) [] (hpo X mem sw o e) P := by
  obtain ⟨h1, h2, h3, h4⟩ := ht
  refine bTok_value_0 hX (by rw [hn]; exact qi_inx (by omega) (by omega)) ?_
  rw [hn, qi_N (by omega), (h3 n hN).2.2]
  exact k
theorem qTk_at (v : Int32) (h : qTk mem N K S V) : qTk (mup mem 31 4 v) N K S V := qTk_mono (by (repeat (rw [mup_q]; first | rw [if_pos (by omega)] | rw [if_neg (by omega)]))) (fun j q a b => by (repeat (rw [mup_q]; first | rw [if_pos (by omega)] | rw [if_neg (by omega)]))) h
/-- a value into slot i of the block at B -/
theorem cRd_readValue {B i : Nat} (hX : X.length = 13) (hB : kBl B) (hB1 : 35 < B) (hi : i < 15) (ht : qTk mem N K S V) (hn : mem 31 4 = qi n) (hN : n ≤ N)
    (k : ∀ m' r n', pv K V n = (r, n') → n' ≤ N → m' 31 4 = qi n' → (∀ j q, ¬ (j = 31 ∧ q = 4) → ¬ (B + 4 ≤ j ∧ j < B + 7 ∧ q = i) → m' j q = mem j q) → (∀ nm x, r = some (nm, x) → m' (B + 4) i = nm ∧ m' (B + 5) i = -1 ∧ m' (B + 6) i = x) → P (.inl (some (.int (if r.isSome = true then 1 else 0))), hpo X m' sw o e)) :
    QW (d + 1) mRd_readValue 0 (qen 5 [.ref 30, .ref B, .int (qi i)]) [] (hpo X mem sw o e) P := by
  have hii : inx (qi i) 15 := qi_inx hi (by omega)
  refine bRd_readValue_0 hX hB (cTok_take hX ht hn hN (by decide) (fun x1 y1 => ?_) (fun x1 => ?_))
  · have ht1 := qTk_at (qi (n + 1)) ht
    have hn1 : mup mem 31 4 (qi (n + 1)) 31 4 = qi (n + 1) := mup_at _ _ _ _
    refine qcl_i (bRd_readValue_9 hX hB (cTok_value hX ht1 hn1 (by omega) (qcl_i (bRd_readValue_17 hX hB (cTok_take hX ht1 hn1 (by omega) (by decide) (fun x2 y2 => ?_) (fun x2 => ?_))))))
    · refine qcl_i (bRd_readValue_27 hX hB (fun z => absurd z (by decide)) (fun z => absurd z (by decide)) (fun _ z => absurd z (by decide)) (fun _ _ => bRd_readValue_44 hX hB (bBl_putNumber_0 hX hB hii hii hii (qcl_v (bRd_readValue_47 hX hB ?_)))))
      rw [qi_N (by omega)]
      refine k _ (some (0, -(V (n + 1)))) (n + 2) (by simp [pv, x1, x2]) (by omega) (by (repeat (rw [mup_q]; first | rw [if_pos (by omega)] | rw [if_neg (by omega)]))) (fun j q a b => by (repeat (rw [mup_q]; first | rw [if_pos (by omega)] | rw [if_neg (by omega)]))) ?_
      rintro nm x ⟨⟩
      exact ⟨by (repeat (rw [mup_q]; first | rw [if_pos (by omega)] | rw [if_neg (by omega)])), by (repeat (rw [mup_q]; first | rw [if_pos (by omega)] | rw [if_neg (by omega)])), by (repeat (rw [mup_q]; first | rw [if_pos (by omega)] | rw [if_neg (by omega)]))⟩
    · exact qcl_i (bRd_readValue_27 hX hB (fun _ _ => k _ none (n + 1) (by simp [pv, x1, x2]) (by omega) hn1 (fun j q a b => by (repeat (rw [mup_q]; first | rw [if_pos (by omega)] | rw [if_neg (by omega)]))) (fun nm x z => nomatch z)) (fun _ z => absurd z (by decide)) (fun z => absurd rfl z) (fun z => absurd rfl z))
  · refine qcl_i (bRd_readValue_9 hX hB (cTok_value hX ht hn hN (qcl_i (bRd_readValue_17 hX hB (cTok_take hX ht hn hN (by decide) (fun x2 y2 => ?_) (fun x2 => ?_))))))
    · refine qcl_i (bRd_readValue_27 hX hB (fun z => absurd z (by decide)) (fun z => absurd z (by decide)) (fun _ _ => bRd_readValue_44 hX hB (bBl_putNumber_0 hX hB hii hii hii (qcl_v (bRd_readValue_47 hX hB ?_)))) (fun _ z => absurd rfl z))
      rw [qi_N (by omega)]
      refine k _ (some (0, V n)) (n + 1) (by simp [pv, x2]) (by omega) (by (repeat (rw [mup_q]; first | rw [if_pos (by omega)] | rw [if_neg (by omega)]))) (fun j q a b => by (repeat (rw [mup_q]; first | rw [if_pos (by omega)] | rw [if_neg (by omega)]))) ?_
      rintro nm x ⟨⟩
      exact ⟨by (repeat (rw [mup_q]; first | rw [if_pos (by omega)] | rw [if_neg (by omega)])), by (repeat (rw [mup_q]; first | rw [if_pos (by omega)] | rw [if_neg (by omega)])), by (repeat (rw [mup_q]; first | rw [if_pos (by omega)] | rw [if_neg (by omega)]))⟩
    · refine qcl_i (bRd_readValue_27 hX hB (fun _ z => absurd rfl z) (fun _ _ => cTok_take hX ht hn hN (by decide) (fun x3 y3 => ?_) (fun x3 => ?_)) (fun z => absurd rfl z) (fun z => absurd rfl z))
      · have ht1 := qTk_at (qi (n + 1)) ht
        have hn1 : mup mem 31 4 (qi (n + 1)) 31 4 = qi (n + 1) := mup_at _ _ _ _
        refine qcl_i (bRd_readValue_61 hX hB (fun z => absurd z (by decide)) (fun _ => cTok_take hX ht1 hn1 (by omega) (by decide) (fun x4 y4 => ?_) (fun x4 => ?_)))
        · have ht2 := qTk_at (qi (n + 2)) ht1
          have hn2 : mup (mup mem 31 4 (qi (n + 1))) 31 4 (qi (n + 2)) 31 4 = qi (n + 2) := mup_at _ _ _ _
          refine qcl_i (bRd_readValue_73 hX hB (fun _ => cTok_value hX ht2 hn2 (by omega) (qcl_i (bRd_readValue_89 hX hB (bBl_putColumn_0 hX hB hii hii hii (qcl_v (bRd_readValue_92 hX hB ?_)))))) (fun z => absurd z (by decide)))
          rw [qi_N (by omega)]
          refine cTok_take (n := n + 2) (N := N) (K := K) (S := S) (V := V) hX ?_ ?_ (by omega) (by decide) (fun x5 y5 => ?_) (fun x5 => ?_)
          · exact qTk_mono (by (repeat (rw [mup_q]; first | rw [if_pos (by omega)] | rw [if_neg (by omega)]))) (fun j q a b => by (repeat (rw [mup_q]; first | rw [if_pos (by omega)] | rw [if_neg (by omega)]))) ht
          · (repeat (rw [mup_q]; first | rw [if_pos (by omega)] | rw [if_neg (by omega)]))
          · refine qcl_i (bRd_readValue_100 hX hB (by decide) (k _ (some (V n, V (n + 2))) (n + 3) (by simp [pv, x3, x4, x5]) (by omega) (by (repeat (rw [mup_q]; first | rw [if_pos (by omega)] | rw [if_neg (by omega)]))) (fun j q a b => by (repeat (rw [mup_q]; first | rw [if_pos (by omega)] | rw [if_neg (by omega)]))) ?_))
            rintro nm x ⟨⟩
            exact ⟨by (repeat (rw [mup_q]; first | rw [if_pos (by omega)] | rw [if_neg (by omega)])), by (repeat (rw [mup_q]; first | rw [if_pos (by omega)] | rw [if_neg (by omega)])), by (repeat (rw [mup_q]; first | rw [if_pos (by omega)] | rw [if_neg (by omega)]))⟩
          · exact qcl_i (bRd_readValue_100 hX hB (by decide) (k _ none (n + 2) (by simp [pv, x3, x4, x5]) (by omega) (by (repeat (rw [mup_q]; first | rw [if_pos (by omega)] | rw [if_neg (by omega)]))) (fun j q a b => by (repeat (rw [mup_q]; first | rw [if_pos (by omega)] | rw [if_neg (by omega)]))) (fun nm x z => nomatch z)))
        · exact qcl_i (bRd_readValue_73 hX hB (fun z => absurd rfl z) (fun _ => k _ none (n + 1) (by simp [pv, x3, x4]) (by omega) hn1 (fun j q a b => by (repeat (rw [mup_q]; first | rw [if_pos (by omega)] | rw [if_neg (by omega)]))) (fun nm x z => nomatch z)))
      · exact qcl_i (bRd_readValue_61 hX hB (fun _ => k _ none n (by simp [pv, x1, x2, x3]) (by omega) hn (fun j q a b => rfl) (fun nm x z => nomatch z)) (fun z => absurd rfl z))
end GRA
