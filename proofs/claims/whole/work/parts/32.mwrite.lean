/-- the first n counts added up -/
def sm (g : Nat → Int32) : Nat → Int32
  | 0 => 0
  | n + 1 => sm g n + g n
section TB8
variable {d : Nat} {P : qE → Prop} {X : qH} {mem : Nat → Nat → Int32} {sw : Bool} {o : Int64} {e : List Nat}
theorem cBp_write {w : Int64} {L : Nat} (hX : X.length = 13) (hL : mem 28 1 = qi L) (hL2 : L ≤ 200) (k1 : (∀ i, i < 8 → okb w i) → L + cb w 8 ≤ 200 → P (.inl (some (.int 1)), hpo X (mtx mem 29 28 1 (L + cb w 8) (wrt w L (mem 29) 8)) sw o e)) (k0 : ((∃ i, i < 8 ∧ ¬ okb w i) ∨ 200 < L + cb w 8) → P (.inl (some (.int 0)), hpo X mem sw o e)) : QW (d + 1 + 1 + 1) mBp_write 0 (qen 3 [.ref 13, .long w]) [] (hpo X mem sw o e) P := by
  refine bBp_write_0 hX ?_
  refine cTxt_append hX hL hL2 (fun h1 h2 => qcl_i ?_) (fun h => qcl_i ?_)
  · exact bBp_write_8 hX rfl (k1 h1 h2)
  · exact bBp_write_8 hX rfl (k0 h)
theorem cMo_write {w : Int64} {L : Nat} (hX : X.length = 13) (hL0 : mem 193 6 = qi L) (hL2 : L ≤ 200) (k1 : (∀ i, i < 8 → okb w i) → L + cb w 8 ≤ 200 → P (.inl (some (.int 1)), hpo X (mtx (mup mem 193 0 0) 198 193 6 (L + cb w 8) (wrt w L (mem 198) 8)) sw o e)) (k0 : ((∃ i, i < 8 ∧ ¬ okb w i) ∨ 200 < L + cb w 8) → P (.inl (some (.int 0)), hpo X (mup mem 193 0 0) sw o e)) : QW d mMo_write 0 (qen 6 [.ref 193, .long w]) [] (hpo X mem sw o e) P := by
  have hcb := cb_le w 8
  have hL : mup mem 193 0 0 193 6 = qi L := by rw [mup_sl (by decide)]; exact hL0
  have e198 : mup mem 193 0 0 198 = mem 198 := mup_ce (by decide)
  rw [← e198] at k1
  have second : (∀ i, i < 8 → okb w i) → L + cb w 8 ≤ 200 → ∀ w5, qfr w5 → QW d mMo_write 88 (lMo_write_88 w (qi (cb w 8)) 0 w5) [] (hpo X (mup mem 193 0 0) sw o e) P := by
    intro hok hsum w5 hw5
    have loop : ∀ (m i : Nat), 8 - i = m → i ≤ 8 → ∀ w5, qfr w5 → QW d mMo_write 88 (lMo_write_88 w (qi (cb w 8)) (qi i) w5) [] (hpo X (mtx (mup mem 193 0 0) 198 193 6 (L + cb w i) (wrt w L (mup mem 193 0 0 198) i)) sw o e) P := by
      intro m
      induction m with
      | zero =>
        intro i hm hi w5 hw5
        have h8 : i = 8 := by omega
        subst h8
        have n8 : ∀ {Q : Prop}, ¬ (8 : Int32) ≤ qi 8 → Q := fun z => absurd (show (8 : Int32) ≤ qi 8 from by decide) z
        exact bMo_write_88 hX hw5 (fun _ => k1 hok hsum) (fun z => n8 z) (fun z => n8 z) (fun z => n8 z) (fun z => n8 z)
      | succ m ih =>
        intro i hm hi w5 hw5
        have hi8 : i < 8 := by omega
        have h2 := ih (i + 1) (by omega) (by omega)
        have hmono := cb_mono w (i + 1) (8 - (i + 1))
        rw [show i + 1 + (8 - (i + 1)) = 8 by omega] at hmono
        refine bMo_write_88 hX hw5 (fun z => absurd z (q8 i hi8)) (fun _ z => ?_) (fun _ z => ?_) (fun _ z => ?_) (fun _ z => ?_)
        · rw [byt_m] at z ⊢
          have e1 : cb w (i + 1) = cb w i := by
            show cb w i + (if _ then 0 else 1) = _
            rw [if_pos z, Nat.add_zero]
          have e2 : wrt w L (mup mem 193 0 0 198) (i + 1) = wrt w L (mup mem 193 0 0 198) i := if_pos z
          rw [e1, e2] at h2
          rw [qi_1]
          exact h2 _ (Or.inr (Or.inl ⟨_, rfl⟩))
        · rw [byt_m] at z
          have e1 : cb w (i + 1) = cb w i + 1 := by
            show cb w i + (if _ then 0 else 1) = _
            rw [if_neg z]
          rw [mtx_len]
          exact qi_inx (by omega) (by omega)
        · rw [byt_m] at z ⊢
          rw [(okb_c (hok i hi8) z).1]
          exact (okb_c (hok i hi8) z).2
        · rw [byt_m] at z ⊢
          have e1 : cb w (i + 1) = cb w i + 1 := by
            show cb w i + (if _ then 0 else 1) = _
            rw [if_neg z]
          have e2 : wrt w L (mup mem 193 0 0 198) (i + 1) = fun q => if q = L + cb w i then byt w i else wrt w L (mup mem 193 0 0 198) i q := if_neg z
          rw [e1, e2, ← Nat.add_assoc] at h2
          rw [(okb_c (hok i hi8) z).1, mtx_step (by decide) (by omega), qi_1]
          exact h2 _ (Or.inr (Or.inl ⟨_, rfl⟩))
    have h0 := loop 8 0 rfl (by omega) w5 hw5
    rw [show L + cb w 0 = L from rfl, show wrt w L (mup mem 193 0 0 198) 0 = mup mem 193 0 0 198 from rfl, mtx_self hL] at h0
    exact h0
  have first : ∀ (m i : Nat), 8 - i = m → i ≤ 8 → (∀ j, j < i → okb w j) → ∀ w5, qfr w5 → QW d mMo_write 10 (lMo_write_10 w (qi (cb w i)) (qi i) w5) [] (hpo X (mup mem 193 0 0) sw o e) P := by
    intro m
    induction m with
    | zero =>
      intro i hm hi hok w5 hw5
      have h8 : i = 8 := by omega
      subst h8
      have n8 : ∀ {Q : Prop}, ¬ (8 : Int32) ≤ qi 8 → Q := fun z => absurd (show (8 : Int32) ≤ qi 8 from by decide) z
      refine bMo_write_10 hX hw5 (fun _ z => ?_) (fun _ z => k0 (Or.inr ?_)) (fun z => n8 z) (fun z => n8 z) (fun z => n8 z) (fun z => n8 z)
      · rw [hL, qi_add] at z
        exact second hok ((qi_le (b := 200) (by omega) (by omega)).mp z) w5 hw5
      · rw [hL, qi_add] at z
        have : ¬ L + cb w 8 ≤ 200 := fun h => z ((qi_le (b := 200) (by omega) (by omega)).mpr h)
        omega
    | succ m ih =>
      intro i hm hi hok w5 hw5
      have hi8 : i < 8 := by omega
      have go : okb w i → QW d mMo_write 52 (lMo_write_52 w (qi (cb w i)) (qi i) (byt w i)) [] (hpo X (mup mem 193 0 0) sw o e) P := by
        intro hk
        have h2 := ih (i + 1) (by omega) (by omega) (fun j hj => by
          by_cases h : j = i
          · subst h; exact hk
          · exact hok j (by omega))
        refine bMo_write_52 hX (fun z => ?_) (fun z => ?_)
        · refine bMo_write_63 hX ?_
          have e1 : cb w (i + 1) = cb w i + 1 := by
            show cb w i + (if _ then 0 else 1) = _
            rw [if_neg z]
          rw [e1] at h2
          rw [qi_1, qi_1]
          exact h2 _ (Or.inr (Or.inl ⟨_, rfl⟩))
        · refine bMo_write_63 hX ?_
          have e1 : cb w (i + 1) = cb w i + 0 := by
            show cb w i + (if _ then 0 else 1) = _
            rw [if_pos z]
          rw [e1] at h2
          rw [qi_1, show qi (cb w i) + 0 = qi (cb w i + 0) from qi_add _ 0]
          exact h2 _ (Or.inr (Or.inl ⟨_, rfl⟩))
      refine bMo_write_10 hX hw5 (fun z => absurd z (q8 i hi8)) (fun z => absurd z (q8 i hi8)) (fun _ z => ?_) (fun _ z z2 => ?_) (fun _ z z2 z3 => ?_) (fun _ z z2 z3 => ?_)
      · rw [byt_m] at z ⊢
        exact go (Or.inl z)
      · rw [byt_m] at z z2
        refine k0 (Or.inl ⟨i, hi8, fun h => ?_⟩)
        rcases h with h | h
        · exact z h
        · exact h.1 z2
      · rw [byt_m] at z2 z3 ⊢
        exact go (Or.inr ⟨z2, z3⟩)
      · rw [byt_m] at z z3
        refine k0 (Or.inl ⟨i, hi8, fun h => ?_⟩)
        rcases h with h | h
        · exact z h
        · exact z3 h.2
  exact bMo_write_0 hX (first 8 0 rfl (by omega) (fun j hj => absurd hj (Nat.not_lt_zero j)) _ (Or.inl rfl))
theorem cBag_sum {t n : Nat} (hX : X.length = 13) (ht : kBag t) (hn : mem t 1 = qi n) (hn2 : n ≤ 64) (hp : P (.inl (some (.int (sm (mem (t + 2)) n))), hpo X mem sw o e)) : QW d mBag_sum 0 (qen 3 [.ref t]) [] (hpo X mem sw o e) P := by
  have loop : ∀ (m i : Nat), n - i = m → i ≤ n → QW d mBag_sum 4 (lBag_sum_4 (sm (mem (t + 2)) i) (qi i) t) [] (hpo X mem sw o e) P := by
    intro m
    induction m with
    | zero =>
      intro i hm hi
      have hin : i = n := by omega
      subst hin
      refine bBag_sum_4 hX ht (fun _ => hp) (fun z => ?_) (fun z => ?_)
      all_goals
        rw [hn] at z
        exact absurd ((qi_le (by omega) (by omega)).mpr (Nat.le_refl _)) z
    | succ m ih =>
      intro i hm hi
      refine bBag_sum_4 hX ht (fun z => ?_) (fun _ => qi_inx (by omega) (by omega)) (fun _ => ?_)
      · rw [hn, qi_le (by omega) (by omega)] at z
        omega
      · rw [qi_N (by omega), qi_1]
        exact ih (i + 1) (by omega) (by omega)
  exact bBag_sum_0 hX ht (loop n 0 rfl (Nat.zero_le n))
theorem cMo_total {n : Nat} (hX : X.length = 13) (hn : mem 193 33 = qi n) (hn2 : n ≤ 64) (hp : P (.inl (some (.int (sm (mem 216) n))), hpo X (mup mem 193 0 0) sw o e)) : QW d mMo_total 0 (qen 3 [.ref 193]) [] (hpo X mem sw o e) P := by
  have hn' : mup mem 193 0 0 193 33 = qi n := by rw [mup_sl (by decide)]; exact hn
  have e216 : mup mem 193 0 0 216 = mem 216 := mup_ce (by decide)
  have loop : ∀ (m i : Nat), n - i = m → i ≤ n → QW d mMo_total 9 (lMo_total_9 (sm (mem 216) i) (qi i)) [] (hpo X (mup mem 193 0 0) sw o e) P := by
    intro m
    induction m with
    | zero =>
      intro i hm hi
      have hin : i = n := by omega
      subst hin
      refine bMo_total_9 hX (fun _ => hp) (fun z => ?_) (fun z => ?_)
      all_goals
        rw [hn'] at z
        exact absurd ((qi_le (by omega) (by omega)).mpr (Nat.le_refl _)) z
    | succ m ih =>
      intro i hm hi
      refine bMo_total_9 hX (fun z => ?_) (fun _ => qi_inx (by omega) (by omega)) (fun _ => ?_)
      · rw [hn', qi_le (by omega) (by omega)] at z
        omega
      · rw [qi_N (by omega), qi_1, e216]
        exact ih (i + 1) (by omega) (by omega)
  exact bMo_total_0 hX (loop n 0 rfl (Nat.zero_le n))
end TB8
