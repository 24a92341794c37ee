def hav (g : Nat → Int32) (v : Int32) : Nat → Nat
  | 0 => 0
  | n + 1 => hav g v n + (if g n = v then 1 else 0)
theorem hav_le (g : Nat → Int32) (v : Int32) : ∀ n, hav g v n ≤ n
  | 0 => Nat.le_refl 0
  | n + 1 => by
    have := hav_le g v n
    show hav g v n + _ ≤ n + 1
    split <;> omega
theorem hav_pos (g : Nat → Int32) (v : Int32) : ∀ n, 0 < hav g v n ↔ ∃ i, i < n ∧ g i = v
  | 0 => ⟨fun h => absurd h (Nat.lt_irrefl 0), fun ⟨i, h, _⟩ => absurd h (Nat.not_lt_zero i)⟩
  | n + 1 => by
    have ih := hav_pos g v n
    show 0 < hav g v n + _ ↔ _
    by_cases h : g n = v
    · rw [if_pos h]
      exact ⟨fun _ => ⟨n, Nat.lt_succ_self n, h⟩, fun _ => Nat.succ_pos _⟩
    · rw [if_neg h, Nat.add_zero, ih]
      constructor
      · rintro ⟨i, h1, h2⟩
        exact ⟨i, by omega, h2⟩
      · rintro ⟨i, h1, h2⟩
        refine ⟨i, ?_, h2⟩
        by_cases h3 : i = n
        · subst h3; exact absurd h2 h
        · omega
theorem hav_two (g : Nat → Int32) (v : Int32) : ∀ n, 1 < hav g v n ↔ ∃ i j, i < j ∧ j < n ∧ g i = v ∧ g j = v
  | 0 => ⟨fun h => absurd h (by show ¬ 1 < 0; omega), fun ⟨i, j, _, h, _⟩ => absurd h (Nat.not_lt_zero j)⟩
  | n + 1 => by
    have ih := hav_two g v n
    have hp := hav_pos g v n
    show 1 < hav g v n + _ ↔ _
    by_cases h : g n = v
    · rw [if_pos h]
      constructor
      · intro h1
        obtain ⟨i, h2, h3⟩ := hp.mp (by omega)
        exact ⟨i, n, h2, Nat.lt_succ_self n, h3, h⟩
      · rintro ⟨i, j, h1, h2, h3, h4⟩
        have := hp.mpr ⟨i, by omega, h3⟩
        omega
    · rw [if_neg h, Nat.add_zero, ih]
      constructor
      · rintro ⟨i, j, h1, h2, h3⟩
        exact ⟨i, j, h1, by omega, h3⟩
      · rintro ⟨i, j, h1, h2, h3, h4⟩
        refine ⟨i, j, h1, ?_, h3, h4⟩
        by_cases h5 : j = n
        · subst h5; exact absurd h4 h
        · omega
theorem mup_mup (mem : Nat → Nat → Int32) (i k : Nat) (v w : Int32) : mup (mup mem i k v) i k w = mup mem i k w := by
  funext j q
  simp only [mup_q]
  split <;> rfl
section TB2
variable {d : Nat} {P : qE → Prop} {X : qH} {mem : Nat → Nat → Int32} {sw : Bool} {o : Int64} {e : List Nat}
theorem cMo_having {t c n : Nat} {v : Int32} (hX : X.length = 13) (ht : t < 4) (hc : c < 3) (hn : mem 195 t = qi n) (hn8 : n ≤ 8) (hp : P (.inl (some (.int (qi (hav (fun r => mem 196 (24 * t + 3 * r + c)) v n)))), hpo X mem sw o e)) : QW d mMo_having 0 (qen 6 [.ref 193, .int (qi t), .int (qi c), .int v]) [] (hpo X mem sw o e) P := by
  have hix : ∀ i : Nat, 24 * qi t + 3 * qi i + qi c = qi (24 * t + 3 * i + c) := by
    intro i
    show qi 24 * qi t + qi 3 * qi i + qi c = _
    rw [qi_mul, qi_mul, qi_add, qi_add]
  have loop : ∀ (m i : Nat), n - i = m → i ≤ n → QW d mMo_having 6 (lMo_having_6 (qi t) (qi c) v (qi (hav (fun r => mem 196 (24 * t + 3 * r + c)) v i)) (qi i)) [] (hpo X mem sw o e) P := by
    intro m
    induction m with
    | zero =>
      intro i hm hi
      have hin : i = n := by omega
      subst hin
      refine bMo_having_6 hX (qi_inx ht (by omega)) (fun _ => hp) (fun z => ?_) (fun z => ?_) (fun z => ?_)
      all_goals
        rw [qi_N (by omega), hn] at z
        exact absurd ((qi_le (by omega) (by omega)).mpr (Nat.le_refl i)) z
    | succ m ih =>
      intro i hm hi
      have e1 : (24 * qi t + 3 * qi i + qi c).toNatClampNeg = 24 * t + 3 * i + c := by rw [hix, qi_N (by omega)]
      refine bMo_having_6 hX (qi_inx ht (by omega)) (fun z => ?_) (fun z => ?_) (fun z z2 => ?_) (fun z z2 => ?_)
      · rw [qi_N (by omega), hn, qi_le (by omega) (by omega)] at z
        omega
      · rw [hix]
        exact qi_inx (by omega) (by omega)
      · rw [e1] at z2
        refine bMo_having_44 hX ?_
        have h2 := ih (i + 1) (by omega) (by omega)
        have e2 : hav (fun r => mem 196 (24 * t + 3 * r + c)) v (i + 1) = hav (fun r => mem 196 (24 * t + 3 * r + c)) v i + 0 := by
          show _ + (if _ then 1 else 0) = _
          rw [if_neg z2]
        rw [e2, ← qi_1, ← qi_add] at h2
        exact h2
      · rw [e1] at z2
        refine bMo_having_44 hX ?_
        have h2 := ih (i + 1) (by omega) (by omega)
        have e2 : hav (fun r => mem 196 (24 * t + 3 * r + c)) v (i + 1) = hav (fun r => mem 196 (24 * t + 3 * r + c)) v i + 1 := by
          show _ + (if _ then 1 else 0) = _
          rw [if_pos z2]
        rw [e2, ← qi_1, ← qi_1] at h2
        exact h2
  exact bMo_having_0 hX (loop n 0 rfl (Nat.zero_le n))
/-- which table and column there is -/
def qcol (cnt : Nat) (col : Nat → Nat) (a b : Int32) (t c : Nat) : Prop := a = qi t ∧ b = qi c ∧ t < cnt ∧ c < col t
theorem cMo_isColumn {cnt : Nat} {col : Nat → Nat} {a b : Int32} (hX : X.length = 13) (hc4 : cnt ≤ 4) (hcn : mem 193 1 = qi cnt) (hco : ∀ i, i < 4 → mem 194 i = qi (col i) ∧ col i ≤ 3) (k1 : ∀ t c, qcol cnt col a b t c → P (.inl (some (.int 1)), hpo X mem sw o e)) (k0 : (∀ t c, ¬ qcol cnt col a b t c) → P (.inl (some (.int 0)), hpo X mem sw o e)) : QW d mMo_isColumn 0 (qen 3 [.ref 193, .int a, .int b]) [] (hpo X mem sw o e) P := by
  refine bMo_isColumn_0 hX (fun z => k0 ?_) (fun z z2 => k0 ?_) (fun z z2 z3 => k0 ?_) (fun z z2 z3 => ?_) (fun z z2 z3 z4 => k0 ?_) (fun z z2 z3 z4 => ?_)
  · rintro t c ⟨rfl, -, h, -⟩
    exact qi_p (by omega) z
  · rintro t c ⟨rfl, -, h, -⟩
    rw [hcn, qi_le (by omega) (by omega)] at z2
    omega
  · rintro t c ⟨rfl, rfl, h, h2⟩
    have := (hco t (by omega)).2
    exact qi_p (by omega) z3
  · obtain ⟨t, h1, rfl⟩ := qi_of z
    rw [hcn, qi_le (by omega) (by omega)] at z2
    exact qi_inx (by omega) (by omega)
  · rintro t c ⟨rfl, rfl, h, h2⟩
    have h3 := hco t (by omega)
    rw [qi_N (by omega), h3.1, qi_le (by omega) (by omega)] at z4
    omega
  · obtain ⟨t, h1, rfl⟩ := qi_of z
    obtain ⟨c, h2, rfl⟩ := qi_of z3
    rw [hcn, qi_le (by omega) (by omega)] at z2
    have h3 := hco t (by omega)
    rw [qi_N (by omega), h3.1, qi_le (by omega) (by omega)] at z4
    exact k1 t c ⟨rfl, rfl, by omega, by omega⟩
theorem cBp_tableWithColumn {cnt : Nat} {col : Nat → Nat} {a b : Int32} (hX : X.length = 13) (hc4 : cnt ≤ 4) (hcn : mem 14 1 = qi cnt) (hco : ∀ i, i < 4 → mem (16 + 3 * i) 0 = qi (col i) ∧ col i ≤ 3) (he : e.length < 10000) (k1 : ∀ t c, qcol cnt col a b t c → P (.inl (some (.ref (16 + 3 * t))), hpo X mem sw o e)) (k0 : (∀ t c, ¬ qcol cnt col a b t c) → P (.inr (225 + e.length), hpo X mem sw o (e ++ [20]))) : QW (d + 1) mBp_tableWithColumn 0 (qen 3 [.ref 13, .int a, .int b]) [] (hpo X mem sw o e) P := by
  refine bBp_tableWithColumn_0 hX ?_
  refine bCat_has_0 hX (fun z => qcl_i ?_) (fun z z2 => qcl_i ?_) (fun z z2 => qcl_i ?_)
  · refine bBp_tableWithColumn_8 hX (fun _ => bBp_tableWithColumn_27 hX he (k0 ?_)) (fun y => absurd rfl y) (fun y => absurd rfl y)
    rintro t c ⟨rfl, -, h, -⟩
    exact qi_p (by omega) z
  · refine bBp_tableWithColumn_8 hX (fun _ => bBp_tableWithColumn_27 hX he (k0 ?_)) (fun y => absurd rfl y) (fun y => absurd rfl y)
    rintro t c ⟨rfl, -, h, -⟩
    rw [hcn, qi_le (by omega) (by omega)] at z2
    omega
  · obtain ⟨t, h1, rfl⟩ := qi_of z
    rw [hcn, qi_le (by omega) (by omega)] at z2
    have ht4 : t < 4 := by omega
    have h3 := hco t ht4
    refine bBp_tableWithColumn_8 hX (fun y => absurd y (by decide)) (fun _ => qi_inx ht4 (by omega)) (fun _ => ?_)
    rw [qi_N h1]
    refine bTab_hasColumn_0 hX (kTab_at ht4) (fun y => qcl_i ?_) (fun y y2 => qcl_i ?_) (fun y y2 => qcl_i ?_)
    · refine bBp_tableWithColumn_24 hX (fun w => absurd rfl w) (fun w => absurd rfl w) (fun _ => bBp_tableWithColumn_27 hX he (k0 ?_))
      rintro t' c ⟨-, rfl, h5, h6⟩
      have := (hco t' (by omega)).2
      exact qi_p (by omega) y
    · refine bBp_tableWithColumn_24 hX (fun w => absurd rfl w) (fun w => absurd rfl w) (fun _ => bBp_tableWithColumn_27 hX he (k0 ?_))
      rintro t' c ⟨h4, rfl, h5, h6⟩
      have h7 : t = t' := qi_inj h1 (by omega) h4
      subst h7
      rw [h3.1, qi_le (by omega) (by omega)] at y2
      omega
    · obtain ⟨c, h2, rfl⟩ := qi_of y
      rw [h3.1, qi_le (by omega) (by omega)] at y2
      refine bBp_tableWithColumn_24 hX (fun _ => qi_inx ht4 (by omega)) (fun _ => ?_) (fun w => absurd w (by decide))
      rw [qi_N h1]
      exact k1 t c ⟨rfl, rfl, by omega, by omega⟩
/-- two rows of a table with one value in a column -/
def qtwin (g : Nat → Int32) (n : Nat) : Prop := ∃ i j, i < j ∧ j < n ∧ g i = g j
theorem cBp_key {cnt : Nat} {col row : Nat → Nat} {a b : Int32} (hX : X.length = 13) (hc4 : cnt ≤ 4) (hcn : mem 14 1 = qi cnt) (hco : ∀ i, i < 4 → mem (16 + 3 * i) 0 = qi (col i) ∧ col i ≤ 3) (hro : ∀ i, i < 4 → mem (16 + 3 * i) 1 = qi (row i) ∧ row i ≤ 8) (he : e.length < 10000) (k1 : ∀ t c, qcol cnt col a b t c → ¬ qtwin (fun r => mem (16 + 3 * t + 2) (r * 3 + c)) (row t) → P (.inl none, hpo X (mup mem (16 + 3 * t + 1) c 1) sw o e)) (k2 : ∀ t c, qcol cnt col a b t c → qtwin (fun r => mem (16 + 3 * t + 2) (r * 3 + c)) (row t) → P (.inr (225 + e.length), hpo X mem sw o (e ++ [21]))) (k0 : (∀ t c, ¬ qcol cnt col a b t c) → P (.inr (225 + e.length), hpo X mem sw o (e ++ [20]))) : QW (d + 1 + 1) mBp_key 0 (qen 4 [.ref 13, .int a, .int b]) [] (hpo X mem sw o e) P := by
  refine bBp_key_0 hX ?_
  refine cBp_tableWithColumn hX hc4 hcn hco he (fun t c hq => qcl_i ?_) (fun h => qcl_x rfl (k0 h))
  obtain ⟨rfl, rfl, h1, h2⟩ := hq
  have ht4 : t < 4 := by omega
  have h3 := hco t ht4
  have h4 := hro t ht4
  refine bBp_key_6 hX (kTab_at ht4) ?_
  refine cTab_hasTwins hX (kTab_at ht4) h4.1 h4.2 (by omega) (fun h => qcl_i ?_) (fun h => qcl_i ?_)
  · exact bBp_key_12 hX (kTab_at ht4) (fun y => absurd y (by decide)) (fun y => absurd y (by decide)) he (fun _ => k2 t c ⟨rfl, rfl, h1, h2⟩ h)
  · refine bBp_key_12 hX (kTab_at ht4) (fun _ => qi_inx (by omega) (by omega)) (fun _ => ?_) he (fun y => absurd rfl y)
    rw [qi_N (by omega)]
    exact k1 t c ⟨rfl, rfl, h1, h2⟩ (fun ⟨i, j, h5, h6, h7⟩ => h i j h5 h6 h7)
theorem cMo_key {cnt : Nat} {col row : Nat → Nat} {a b : Int32} (hX : X.length = 13) (hc4 : cnt ≤ 4) (hcn : mem 193 1 = qi cnt) (hco : ∀ i, i < 4 → mem 194 i = qi (col i) ∧ col i ≤ 3) (hro : ∀ i, i < 4 → mem 195 i = qi (row i) ∧ row i ≤ 8) (k1 : ∀ t c, qcol cnt col a b t c → ¬ qtwin (fun r => mem 196 (24 * t + 3 * r + c)) (row t) → P (.inl none, hpo X (mup (mup mem 193 0 0) 197 (3 * t + c) 1) sw o e)) (k2 : ∀ t c, qcol cnt col a b t c → qtwin (fun r => mem 196 (24 * t + 3 * r + c)) (row t) → P (.inl none, hpo X (mup mem 193 0 2) sw o e)) (k0 : (∀ t c, ¬ qcol cnt col a b t c) → P (.inl none, hpo X (mup mem 193 0 1) sw o e)) : QW (d + 1) mMo_key 0 (qen 4 [.ref 193, .int a, .int b]) [] (hpo X mem sw o e) P := by
  refine bMo_key_0 hX ?_
  refine cMo_isColumn hX hc4 hcn hco (fun t c hq => qcl_i ?_) (fun h => qcl_i ?_)
  · obtain ⟨rfl, rfl, h1, h2⟩ := hq
    have hq : qcol cnt col (qi t) (qi c) t c := ⟨rfl, rfl, h1, h2⟩
    have ht4 : t < 4 := by omega
    have h3 := hco t ht4
    have h4 := hro t ht4
    refine bMo_key_7 hX (fun y => absurd y (by decide)) (fun _ => ?_)
    refine bMo_key_15 hX ?_
    have hrow : (mup mem 193 0 0) 195 t = qi (row t) := by rw [mup_ce (by decide)]; exact h4.1
    have hce : (mup mem 193 0 0) 196 = mem 196 := mup_ce (by decide)
    have hix : ∀ i : Nat, 24 * qi t + 3 * qi i + qi c = qi (24 * t + 3 * i + c) := by
      intro i
      show qi 24 * qi t + qi 3 * qi i + qi c = _
      rw [qi_mul, qi_mul, qi_add, qi_add]
    have hkx : 3 * qi t + qi c = qi (3 * t + c) := by
      show qi 3 * qi t + qi c = _
      rw [qi_mul, qi_add]
    have loop : ∀ (m i : Nat), row t - i = m → i ≤ row t → (∀ p q, p < i → p < q → q < row t → ¬ mem 196 (24 * t + 3 * p + c) = mem 196 (24 * t + 3 * q + c)) → QW (d + 1) mMo_key 20 (lMo_key_20 (qi t) (qi c) (qi i)) [] (hpo X (mup mem 193 0 0) sw o e) P := by
      intro m
      induction m with
      | zero =>
        intro i hm hi hno
        refine bMo_key_20 hX (fun z => absurd (mup_at _ _ _ _) z) (fun _ => qi_inx ht4 (by omega)) (fun _ _ => ?_) (fun _ z => ?_) (fun _ z => ?_)
        · refine bMo_key_77 hX (fun z => absurd (mup_at _ _ _ _) z) (fun _ => ?_) (fun _ => ?_)
          · rw [hkx]; exact qi_inx (by omega) (by omega)
          · rw [hkx, qi_N (by omega)]
            refine k1 t c hq ?_
            rintro ⟨p, q, h5, h6, h7⟩
            exact hno p q (by omega) h5 h6 h7
        all_goals
          rw [qi_N (by omega), hrow, qi_le (by omega) (by omega)] at z
          omega
      | succ m ih =>
        intro i hm hi hno
        refine bMo_key_20 hX (fun z => absurd (mup_at _ _ _ _) z) (fun _ => qi_inx ht4 (by omega)) (fun _ z => ?_) (fun _ z => ?_) (fun _ z => ?_)
        · rw [qi_N (by omega), hrow, qi_le (by omega) (by omega)] at z
          omega
        · rw [hix]; exact qi_inx (by omega) (by omega)
        rw [hix, qi_N (by omega), hce]
        refine cMo_having hX ht4 (by omega) hrow h4.2 (qcl_i ?_)
        rw [hce]
        have htwo := hav_two (fun r => mem 196 (24 * t + 3 * r + c)) (mem 196 (24 * t + 3 * i + c)) (row t)
        have hle := hav_le (fun r => mem 196 (24 * t + 3 * r + c)) (mem 196 (24 * t + 3 * i + c)) (row t)
        refine bMo_key_59 hX (fun z2 => ?_) (fun z2 => ?_)
        · have z3 : hav (fun r => mem 196 (24 * t + 3 * r + c)) (mem 196 (24 * t + 3 * i + c)) (row t) ≤ 1 := (qi_le (b := 1) (by omega) (by omega)).mp z2
          refine bMo_key_68 hX ?_
          rw [mup_mup, qi_1]
          refine ih (i + 1) (by omega) (by omega) (fun p q h5 h6 h7 => ?_)
          by_cases h8 : p = i
          · subst h8
            intro h9
            have := htwo.mpr ⟨p, q, h6, h7, rfl, h9.symm⟩
            omega
          · exact hno p q (by omega) h6 h7
        · have z3 : ¬ hav (fun r => mem 196 (24 * t + 3 * r + c)) (mem 196 (24 * t + 3 * i + c)) (row t) ≤ 1 := fun z3 => z2 ((qi_le (b := 1) (by omega) (by omega)).mpr z3)
          refine bMo_key_68 hX ?_
          rw [mup_mup]
          refine bMo_key_20 hX (fun _ => ?_) (fun y => ?_) (fun y => ?_) (fun y => ?_) (fun y => ?_)
          · refine bMo_key_77 hX (fun _ => ?_) (fun y => ?_) (fun y => ?_)
            · obtain ⟨p, q, h5, h6, h7, h8⟩ := htwo.mp (by omega)
              exact k2 t c hq ⟨p, q, h5, h6, h7.trans h8.symm⟩
            all_goals
              rw [mup_at] at y
              exact absurd y (by decide)
          all_goals
            rw [mup_at] at y
            exact absurd y (by decide)
    exact loop (row t) 0 rfl (Nat.zero_le _) (fun p q h => absurd h (Nat.not_lt_zero p))
  · refine bMo_key_7 hX (fun _ => ?_) (fun y => absurd rfl y)
    refine bMo_key_15 hX ?_
    refine bMo_key_20 hX (fun _ => ?_) (fun y => ?_) (fun y => ?_) (fun y => ?_) (fun y => ?_)
    · refine bMo_key_77 hX (fun _ => k0 h) (fun y => ?_) (fun y => ?_)
      all_goals
        rw [mup_at] at y
        exact absurd y (by decide)
    all_goals
      rw [mup_at] at y
      exact absurd y (by decide)
end TB2
