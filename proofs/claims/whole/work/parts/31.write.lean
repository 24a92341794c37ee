def byt (w : Int64) (i : Nat) : Int32 := (Int64.toInt32 ((Int64.toUInt64 w >>> ((Int32.toInt64 (8 * qi i)).toUInt64 &&& Int64.toUInt64 63)).toInt64)) &&& 255
theorem byt_m (w : Int64) (i : Nat) : Int64.toInt32 (((Int64.toUInt64 w >>> ((Int32.toInt64 (8 * qi i)).toUInt64 &&& Int64.toUInt64 63)).toInt64) &&& 255) = byt w i := by
  unfold byt
  rw [Int64.toInt32_and]
  rfl
/-- a byte that can stand in a text, or none -/
def okb (w : Int64) (i : Nat) : Prop := byt w i = 0 ∨ (¬ byt w i < 32 ∧ byt w i ≤ 126)
def cb (w : Int64) : Nat → Nat
  | 0 => 0
  | i + 1 => cb w i + (if byt w i = 0 then 0 else 1)
theorem cb_le (w : Int64) : ∀ i, cb w i ≤ i
  | 0 => Nat.le_refl 0
  | i + 1 => by
    have := cb_le w i
    show cb w i + _ ≤ i + 1
    split <;> omega
theorem cb_mono (w : Int64) (i : Nat) : ∀ j, cb w i ≤ cb w (i + j)
  | 0 => Nat.le_refl _
  | j + 1 => Nat.le_trans (cb_mono w i j) (Nat.le_add_right _ _)
theorem okb_ch {w : Int64} {i : Nat} (h : okb w i) (h0 : ¬ byt w i = 0) : ∃ b : Nat, b < 127 ∧ byt w i = qi b := by
  rcases h with h | ⟨h1, h2⟩
  · exact absurd h h0
  · have h3 : ¬ byt w i < 0 := fun h => h1 (Int32.lt_trans h (by decide))
    obtain ⟨b, hb, e⟩ := qi_of h3
    refine ⟨b, ?_, e⟩
    rw [e] at h2
    have : b ≤ 126 := (qi_le (b := 126) hb (by omega)).mp h2
    omega
theorem ch_c : ∀ b, b < 127 → (Int32.toUInt32 (qi b) % 65536).toInt32 = qi b := by decide
theorem ch_n : ∀ b, b < 127 → narrow .char (.int (qi b)) = .int (qi b) := by decide
theorem okb_c {w : Int64} {i : Nat} (h : okb w i) (h0 : ¬ byt w i = 0) : (Int32.toUInt32 (byt w i) % 65536).toInt32 = byt w i ∧ narrow .char (.int (byt w i)) = .int (byt w i) := by
  obtain ⟨b, hb, e⟩ := okb_ch h h0
  rw [e]
  exact ⟨ch_c b hb, ch_n b hb⟩
/-- the text after i bytes -/
def wrt (w : Int64) (L : Nat) (f : Nat → Int32) : Nat → Nat → Int32
  | 0 => f
  | i + 1 => if byt w i = 0 then wrt w L f i else fun q => if q = L + cb w i then byt w i else wrt w L f i q
/-- length and characters, in the class's or the reference's cells -/
def mtx (mem : Nat → Nat → Int32) (ce le ls L : Nat) (f : Nat → Int32) : Nat → Nat → Int32 := mup (msc mem ce f) le ls (qi L)
theorem mtx_len {mem : Nat → Nat → Int32} {ce le ls L : Nat} {f : Nat → Int32} : mtx mem ce le ls L f le ls = qi L := mup_at _ _ _ _
theorem mtx_self {mem : Nat → Nat → Int32} {ce le ls L : Nat} (h : mem le ls = qi L) : mtx mem ce le ls L (mem ce) = mem := by
  unfold mtx
  rw [msc_self]
  funext j q
  rw [mup_q]
  by_cases h1 : j = le ∧ q = ls
  · rw [if_pos h1, h1.1, h1.2, h]
  · rw [if_neg h1]
theorem mtx_step {mem : Nat → Nat → Int32} {ce le ls L : Nat} {f : Nat → Int32} {x : Int32} (hne : ce ≠ le) (hL : L < 2147483647) : mup (mup (mtx mem ce le ls L f) ce (mtx mem ce le ls L f le ls).toNatClampNeg x) le ls ((mup (mtx mem ce le ls L f) ce (mtx mem ce le ls L f le ls).toNatClampNeg x) le ls + 1) = mtx mem ce le ls (L + 1) (fun q => if q = L then x else f q) := by
  rw [mtx_len, qi_N (by omega), mup_ce (Ne.symm hne), mtx_len, qi_1]
  unfold mtx
  funext j q
  rw [mup_q, mup_q, mup_q, mup_q]
  by_cases h1 : j = le ∧ q = ls
  · rw [if_pos h1, if_pos h1]
  · rw [if_neg h1, if_neg h1]
    by_cases h2 : j = ce
    · subst h2
      rw [msc_at, msc_at]
      by_cases h3 : q = L
      · rw [if_pos ⟨rfl, h3⟩, if_pos h3, if_neg h1]
      · rw [if_neg (fun z => h3 z.2), if_neg h3, if_neg h1]
    · rw [if_neg (fun z => h2 z.1), if_neg h1, msc_ce h2, msc_ce h2]
section TB7
variable {d : Nat} {P : qE → Prop} {X : qH} {mem : Nat → Nat → Int32} {sw : Bool} {o : Int64} {e : List Nat}
theorem q8 (i : Nat) (h : i < 8) : ¬ (8 : Int32) ≤ qi i := fun z => by
  have : 8 ≤ i := (qi_le (a := 8) (by omega) (by omega)).mp z
  omega
theorem cTxt_countOf {w : Int64} (hX : X.length = 13) (k1 : (∀ i, i < 8 → okb w i) → P (.inl (some (.int (qi (cb w 8)))), hpo X mem sw o e)) (k0 : (∃ i, i < 8 ∧ ¬ okb w i) → P (.inl (some (.int (-1))), hpo X mem sw o e)) : QW (d + 1) mTxt_countOf 0 (qen 5 [.long w]) [] (hpo X mem sw o e) P := by
  have loop : ∀ (m i : Nat), 8 - i = m → i ≤ 8 → (∀ j, j < i → okb w j) → ∀ w4, qfr w4 → QW (d + 1) mTxt_countOf 4 (lTxt_countOf_4 w (qi (cb w i)) (qi i) w4) [] (hpo X mem sw o e) P := by
    intro m
    induction m with
    | zero =>
      intro i hm hi hok w4 hw4
      have h8 : i = 8 := by omega
      subst h8
      exact bTxt_countOf_4 hX hw4 (fun _ => k1 hok) (fun z => absurd (show (8 : Int32) ≤ qi 8 from by decide) z)
    | succ m ih =>
      intro i hm hi hok w4 hw4
      have hi8 : i < 8 := by omega
      refine bTxt_countOf_4 hX hw4 (fun z => absurd z (q8 i hi8)) (fun _ => ?_)
      refine bTxt_byteOf_0 hX (qcl_i ?_)
      have go : okb w i → QW (d + 1) mTxt_countOf 38 (lTxt_countOf_38 w (qi (cb w i)) (qi i) (byt w i)) [] (hpo X mem sw o e) P := by
        intro hk
        have h2 := ih (i + 1) (by omega) (by omega) (fun j hj => by
          by_cases h : j = i
          · subst h; exact hk
          · exact hok j (by omega))
        refine bTxt_countOf_38 hX (fun z => ?_) (fun z => ?_)
        · refine bTxt_countOf_49 hX ?_
          have e1 : cb w (i + 1) = cb w i + 1 := by
            show cb w i + (if _ then 0 else 1) = _
            rw [if_neg z]
          rw [e1] at h2
          rw [qi_1, qi_1]
          exact h2 _ (Or.inr (Or.inl ⟨_, rfl⟩))
        · refine bTxt_countOf_49 hX ?_
          have e1 : cb w (i + 1) = cb w i + 0 := by
            show cb w i + (if _ then 0 else 1) = _
            rw [if_pos z]
          rw [e1] at h2
          rw [qi_1, show qi (cb w i) + 0 = qi (cb w i + 0) from qi_add _ 0]
          exact h2 _ (Or.inr (Or.inl ⟨_, rfl⟩))
      refine bTxt_countOf_15 hX hw4 (fun z => go (Or.inl z)) (fun z z2 => k0 ⟨i, hi8, fun h => ?_⟩) (fun z z2 z3 => go (Or.inr ⟨z2, z3⟩)) (fun z z2 z3 => k0 ⟨i, hi8, fun h => ?_⟩)
      · rcases h with h | h
        · exact z h
        · exact h.1 z2
      · rcases h with h | h
        · exact z h
        · exact z3 h.2
  exact bTxt_countOf_0 hX (loop 8 0 rfl (by omega) (fun j hj => absurd hj (Nat.not_lt_zero j)) _ (Or.inl rfl))
theorem cTxt_append {w : Int64} {L : Nat} (hX : X.length = 13) (hL : mem 28 1 = qi L) (hL2 : L ≤ 200) (k1 : (∀ i, i < 8 → okb w i) → L + cb w 8 ≤ 200 → P (.inl (some (.int 1)), hpo X (mtx mem 29 28 1 (L + cb w 8) (wrt w L (mem 29) 8)) sw o e)) (k0 : ((∃ i, i < 8 ∧ ¬ okb w i) ∨ 200 < L + cb w 8) → P (.inl (some (.int 0)), hpo X mem sw o e)) : QW (d + 1 + 1) mTxt_append 0 (qen 6 [.ref 28, .long w]) [] (hpo X mem sw o e) P := by
  have hcb := cb_le w 8
  refine bTxt_append_0 hX ?_
  refine cTxt_countOf hX (fun hok => qcl_i ?_) (fun hno => qcl_i ?_)
  · refine bTxt_append_4 hX (fun z => absurd z (qi_p (by omega))) (fun _ z2 => ?_) (fun _ z2 => k0 (Or.inr ?_))
    · rw [hL, qi_add] at z2
      have hsum : L + cb w 8 ≤ 200 := (qi_le (b := 200) (by omega) (by omega)).mp z2
      have loop : ∀ (m i : Nat), 8 - i = m → i ≤ 8 → ∀ w5, qfr w5 → QW (d + 1 + 1) mTxt_append 26 (lTxt_append_26 w (qi (cb w 8)) (qi i) w5) [] (hpo X (mtx mem 29 28 1 (L + cb w i) (wrt w L (mem 29) i)) sw o e) P := by
        intro m
        induction m with
        | zero =>
          intro i hm hi w5 hw5
          have h8 : i = 8 := by omega
          subst h8
          exact bTxt_append_26 hX hw5 (fun _ => k1 hok hsum) (fun z => absurd (show (8 : Int32) ≤ qi 8 from by decide) z)
        | succ m ih =>
          intro i hm hi w5 hw5
          have hi8 : i < 8 := by omega
          have h2 := ih (i + 1) (by omega) (by omega)
          refine bTxt_append_26 hX hw5 (fun z => absurd z (q8 i hi8)) (fun _ => ?_)
          refine bTxt_byteOf_0 hX (qcl_i ?_)
          have hmono := cb_mono w (i + 1) (8 - (i + 1))
          rw [show i + 1 + (8 - (i + 1)) = 8 by omega] at hmono
          refine bTxt_append_39 (s0 := byt w i) hX hw5 (fun z => ?_) (fun z => ?_) (fun z => ?_) (fun z => ?_)
          · have e1 : cb w (i + 1) = cb w i := by
              show cb w i + (if _ then 0 else 1) = _
              rw [if_pos z, Nat.add_zero]
            have e2 : wrt w L (mem 29) (i + 1) = wrt w L (mem 29) i := if_pos z
            rw [e1, e2] at h2
            rw [qi_1]
            exact h2 _ (Or.inr (Or.inl ⟨_, rfl⟩))
          · have e1 : cb w (i + 1) = cb w i + 1 := by
              show cb w i + (if _ then 0 else 1) = _
              rw [if_neg z]
            rw [mtx_len]
            exact qi_inx (by omega) (by omega)
          · rw [(okb_c (hok i hi8) z).1]
            exact (okb_c (hok i hi8) z).2
          · have e1 : cb w (i + 1) = cb w i + 1 := by
              show cb w i + (if _ then 0 else 1) = _
              rw [if_neg z]
            have e2 : wrt w L (mem 29) (i + 1) = fun q => if q = L + cb w i then byt w i else wrt w L (mem 29) i q := if_neg z
            rw [e1, e2, ← Nat.add_assoc] at h2
            rw [(okb_c (hok i hi8) z).1, mtx_step (by decide) (by omega), qi_1]
            exact h2 _ (Or.inr (Or.inl ⟨_, rfl⟩))
      have h0 := loop 8 0 rfl (by omega) _ (Or.inl rfl)
      rw [show L + cb w 0 = L from rfl, show wrt w L (mem 29) 0 = mem 29 from rfl, mtx_self hL] at h0
      exact h0
    · rw [hL, qi_add] at z2
      have : ¬ L + cb w 8 ≤ 200 := fun h => z2 ((qi_le (b := 200) (by omega) (by omega)).mpr h)
      omega
  · exact bTxt_append_4 hX (fun _ => k0 (Or.inl hno)) (fun z => absurd (show (-1 : Int32) < 0 from by decide) z) (fun z => absurd (show (-1 : Int32) < 0 from by decide) z)
end TB7
