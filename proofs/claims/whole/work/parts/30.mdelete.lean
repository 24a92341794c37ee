section TB6
variable {d : Nat} {P : qE → Prop} {X : qH} {mem : Nat → Nat → Int32} {sw : Bool} {o : Int64} {e : List Nat}
theorem mz_ce {mem : Nat → Nat → Int32} {t j : Nat} {f : Nat → Int32} (h : j ≠ 196) : mz mem t f j = mem j := msc_ce h
theorem cMo_delete {cnt : Nat} {col row : Nat → Nat} {a b v : Int32} (hX : X.length = 13) (hc4 : cnt ≤ 4) (hcn : mem 193 1 = qi cnt) (hco : ∀ i, i < 4 → mem 194 i = qi (col i) ∧ col i ≤ 3) (hro : ∀ i, i < 4 → mem 195 i = qi (row i) ∧ row i ≤ 8) (k1 : ∀ t c, qcol cnt col a b t c → P (.inl (some (.int (qi (row t - (dlt (fun q => mem 196 (24 * t + q)) c v (row t)).1)))), hpo X (mup (mz (mup mem 193 0 0) t (dlt (fun q => mem 196 (24 * t + q)) c v (row t)).2) 195 t (qi (dlt (fun q => mem 196 (24 * t + q)) c v (row t)).1)) sw o e)) (k0 : (∀ t c, ¬ qcol cnt col a b t c) → P (.inl (some (.int 0)), hpo X (mup mem 193 0 1) sw o e)) : QW (d + 1) mMo_delete 0 (qen 8 [.ref 193, .int a, .int b, .int v]) [] (hpo X mem sw o e) P := by
  refine bMo_delete_0 hX ?_
  refine cMo_isColumn hX hc4 hcn hco (fun t c hq => qcl_i ?_) (fun h => qcl_i ?_)
  · obtain ⟨rfl, rfl, h1, h2⟩ := hq
    have hq : qcol cnt col (qi t) (qi c) t c := ⟨rfl, rfl, h1, h2⟩
    have ht4 : t < 4 := by omega
    have h3 := hco t ht4
    have h4 := hro t ht4
    have hc3 : c < 3 := by omega
    refine bMo_delete_7 hX (fun y => absurd y (by decide)) (fun _ => ?_)
    refine bMo_delete_15 hX (fun _ => ?_) (fun y => absurd (by rw [mup_at]; decide) y)
    have hix : ∀ i k : Nat, 24 * qi t + 3 * qi i + qi k = qi (24 * t + (3 * i + k)) := by
      intro i k
      show qi 24 * qi t + qi 3 * qi i + qi k = _
      rw [qi_mul, qi_mul, qi_add, qi_add, Nat.add_assoc]
    have er : ∀ f : Nat → Int32, (mz (mup mem 193 0 0) t f) 195 t = qi (row t) := by
      intro f
      rw [mz_ce (by decide), mup_ce (by decide)]
      exact h4.1
    have loop : ∀ (m i : Nat), row t - i = m → i ≤ row t → ∀ w6 w7, qfr w6 → qfr w7 → QW (d + 1) mMo_delete 33 (lMo_delete_33 (qi t) (qi c) v (qi (dlt (fun q => mem 196 (24 * t + q)) c v i).1) (qi i) w6 w7) [] (hpo X (mz (mup mem 193 0 0) t (dlt (fun q => mem 196 (24 * t + q)) c v i).2) sw o e) P := by
      intro m
      induction m with
      | zero =>
        intro i hm hi w6 w7 hw6 hw7
        have hin : i = row t := by omega
        subst hin
        have hle := dlt_le (fun q => mem 196 (24 * t + q)) c v (row t)
        refine bMo_delete_33 hX hw6 hw7 (qi_inx ht4 (by omega)) (fun _ => qi_inx ht4 (by omega)) (fun _ => qi_inx ht4 (by omega)) (fun _ => ?_) (fun z => ?_) (fun z => ?_) (fun z => ?_)
        · rw [qi_N (by omega), er, qi_sub hle]
          exact k1 t c hq
        all_goals
          rw [qi_N (by omega), er] at z
          exact absurd ((qi_le (by omega) (by omega)).mpr (Nat.le_refl _)) z
      | succ m ih =>
        intro i hm hi w6 w7 hw6 hw7
        have hle := dlt_le (fun q => mem 196 (24 * t + q)) c v i
        have h5 := ih (i + 1) (by omega) (by omega)
        have ef : mz (mup mem 193 0 0) t (dlt (fun q => mem 196 (24 * t + q)) c v i).2 196 (24 * qi t + 3 * qi i + qi c).toNatClampNeg = (dlt (fun q => mem 196 (24 * t + q)) c v i).2 (i * 3 + c) := by
          rw [hix, qi_N (by omega), mz_at (by omega), Nat.mul_comm 3 i]
        refine bMo_delete_33 hX hw6 hw7 (qi_inx ht4 (by omega)) (fun _ => qi_inx ht4 (by omega)) (fun _ => qi_inx ht4 (by omega)) (fun z => ?_) (fun z => ?_) (fun z z2 => ?_) (fun z z2 => ?_)
        · rw [qi_N (by omega), er, qi_le (by omega) (by omega)] at z
          omega
        · rw [hix]; exact qi_inx (by omega) (by omega)
        · rw [ef] at z2
          refine bMo_delete_69 hX hw6 hw7 ?_
          have e4 : dlt (fun q => mem 196 (24 * t + q)) c v (i + 1) = ((dlt (fun q => mem 196 (24 * t + q)) c v i).1 + 1, cp3 (dlt (fun q => mem 196 (24 * t + q)) c v i).2 i (dlt (fun q => mem 196 (24 * t + q)) c v i).1 3) := if_neg z2
          rw [e4] at h5
          have inner : ∀ (m2 j : Nat), 3 - j = m2 → j ≤ 3 → QW (d + 1) mMo_delete 74 (lMo_delete_74 (qi t) (qi c) v (qi (dlt (fun q => mem 196 (24 * t + q)) c v i).1) (qi i) 0 (qi j)) [] (hpo X (mz (mup mem 193 0 0) t (cp3 (dlt (fun q => mem 196 (24 * t + q)) c v i).2 i (dlt (fun q => mem 196 (24 * t + q)) c v i).1 j)) sw o e) P := by
            intro m2
            induction m2 with
            | zero =>
              intro j hm2 hj
              have hj3 : j = 3 := by omega
              subst hj3
              refine bMo_delete_74 hX (fun _ => ?_) (fun z3 => ?_) (fun z3 => ?_) (fun z3 => ?_) (fun z3 => ?_)
              · refine bMo_delete_125 hX (fun _ => ?_) (fun y => absurd rfl y)
                refine bMo_delete_137 hX ?_
                rw [qi_1, qi_1]
                exact h5 _ _ (Or.inr (Or.inl ⟨_, rfl⟩)) (Or.inr (Or.inl ⟨_, rfl⟩))
              all_goals exact absurd (show (3 : Int32) ≤ qi 3 from by decide) z3
            | succ m2 ih2 =>
              intro j hm2 hj
              refine bMo_delete_74 hX (fun z3 => ?_) (fun _ y => absurd rfl y) (fun _ _ => ?_) (fun _ _ => ?_) (fun _ _ => ?_)
              · have : 3 ≤ j := (qi_le (a := 3) (by omega) (by omega)).mp z3
                omega
              · rw [hix]; exact qi_inx (by omega) (by omega)
              · rw [hix]; exact qi_inx (by omega) (by omega)
              · rw [hix, hix, qi_N (by omega), qi_N (by omega), mz_step hle (by omega) (by omega), qi_1]
                exact ih2 (j + 1) (by omega) (by omega)
          have h6 := inner 3 0 rfl (by omega)
          rw [cp3_0] at h6
          exact h6
        · rw [ef] at z2
          refine bMo_delete_69 hX hw6 hw7 ?_
          have e4 : dlt (fun q => mem 196 (24 * t + q)) c v (i + 1) = dlt (fun q => mem 196 (24 * t + q)) c v i := if_pos z2
          rw [e4] at h5
          have out : QW (d + 1) mMo_delete 125 (lMo_delete_125 (qi t) (qi c) v (qi (dlt (fun q => mem 196 (24 * t + q)) c v i).1) (qi i) 1 0) [] (hpo X (mz (mup mem 193 0 0) t (dlt (fun q => mem 196 (24 * t + q)) c v i).2) sw o e) P := by
            refine bMo_delete_125 hX (fun y => absurd y (by decide)) (fun _ => ?_)
            refine bMo_delete_137 hX ?_
            rw [qi_1, show qi (dlt (fun q => mem 196 (24 * t + q)) c v i).1 + 0 = qi (dlt (fun q => mem 196 (24 * t + q)) c v i).1 from qi_add _ 0]
            exact h5 _ _ (Or.inr (Or.inl ⟨_, rfl⟩)) (Or.inr (Or.inl ⟨_, rfl⟩))
          exact bMo_delete_74 hX (fun _ => out) (fun _ _ => out) (fun _ y => absurd y (by decide)) (fun _ y => absurd y (by decide)) (fun _ y => absurd y (by decide))
    have h0 := loop (row t) 0 rfl (Nat.zero_le _) .unset .unset (Or.inl rfl) (Or.inl rfl)
    have e5 : (dlt (fun q => mem 196 (24 * t + q)) c v 0).2 = fun q => (mup mem 193 0 0) 196 (24 * t + q) := by
      funext q
      rw [mup_ce (by decide)]
      rfl
    rw [e5, mz_self] at h0
    exact h0
  · refine bMo_delete_7 hX (fun _ => ?_) (fun y => absurd rfl y)
    refine bMo_delete_15 hX (fun y => ?_) (fun _ => k0 h)
    rw [mup_at] at y
    exact absurd y (by decide)
end TB6
