section TB4
variable {d : Nat} {P : qE → Prop} {X : qH} {mem : Nat → Nat → Int32} {sw : Bool} {o : Int64} {e : List Nat}
theorem cMo_insert {cnt : Nat} {col row : Nat → Nat} {a x y z : Int32} (hX : X.length = 13) (hc4 : cnt ≤ 4) (hcn : mem 193 1 = qi cnt) (hco : ∀ i, i < 4 → mem 194 i = qi (col i) ∧ col i ≤ 3) (hro : ∀ i, i < 4 → mem 195 i = qi (row i) ∧ row i ≤ 8) (k0 : (∀ t, t < cnt → ¬ a = qi t) → P (.inl (some (.int 0)), hpo X (mup mem 193 0 1) sw o e))
    (k2 : ∀ t, t < cnt → a = qi t → (row t = 8 ∨ ∃ k, k < col t ∧ ¬ mem 197 (3 * t + k) = 0 ∧ ∃ i, i < row t ∧ mem 196 (24 * t + 3 * i + k) = vl x y z k) → P (.inl (some (.int 0)), hpo X (mup mem 193 0 2) sw o e))
    (k1 : ∀ t, t < cnt → a = qi t → row t < 8 → (∀ k, k < col t → mem 197 (3 * t + k) = 0 ∨ ∀ i, i < row t → ¬ mem 196 (24 * t + 3 * i + k) = vl x y z k) → P (.inl (some (.int (qi (row t + 1)))), hpo X (mrow (mup mem 193 0 0) 196 (24 * t + 3 * row t) x y z 195 t (qi (row t + 1))) sw o e)) : QW (d + 1) mMo_insert 0 (qen 7 [.ref 193, .int a, .int x, .int y, .int z]) [] (hpo X mem sw o e) P := by
  have bad : ∀ {s : Int32}, ¬ s ≤ 0 → P (.inl (some (.int 0)), hpo X (mup mem 193 0 s) sw o e) → QW (d + 1) mMo_insert 33 (lMo_insert_33 a x y z) [.int s, .ref 193] (hpo X mem sw o e) P := by
    intro s hs hp
    refine bMo_insert_33 hX (fun w => ?_) (fun _ => hp)
    rw [mup_at] at w
    exact absurd w hs
  refine bMo_insert_0 hX (fun w => bMo_insert_13 hX (bad (by decide) (k0 ?_))) (fun w w2 => ?_) (fun w w2 w3 => ?_) (fun w w2 w3 => ?_) (fun w w2 => bMo_insert_13 hX (bad (by decide) (k0 ?_)))
  · rintro t h rfl
    exact qi_p (by omega) w
  · obtain ⟨t, h1, rfl⟩ := qi_of w
    rw [hcn, qi_lt (by omega) (by omega)] at w2
    exact qi_inx (by omega) (by omega)
  · obtain ⟨t, h1, rfl⟩ := qi_of w
    rw [hcn, qi_lt (by omega) (by omega)] at w2
    have ht4 : t < 4 := by omega
    have h3 := hro t ht4
    have h4 := hco t ht4
    have h5 : row t < 8 := by
      rw [qi_N h1, h3.1] at w3
      have : ¬ row t = 8 := fun h => w3 (by rw [h]; rfl)
      omega
    refine bMo_insert_33 hX (fun _ => ?_) (fun w4 => absurd (by rw [mup_at]; decide) w4)
    have hkx : ∀ k : Nat, 3 * qi t + qi k = qi (3 * t + k) := by
      intro k
      show qi 3 * qi t + qi k = _
      rw [qi_mul, qi_add]
    have loop : ∀ (m k : Nat) (s : Int32), col t - k = m → k ≤ col t → ((s = 0 ∧ ∀ j, j < k → mem 197 (3 * t + j) = 0 ∨ ∀ i, i < row t → ¬ mem 196 (24 * t + 3 * i + j) = vl x y z j) ∨ (s = 2 ∧ ∃ j, j < k ∧ ¬ mem 197 (3 * t + j) = 0 ∧ ∃ i, i < row t ∧ mem 196 (24 * t + 3 * i + j) = vl x y z j)) → ∀ w6, qfr w6 → QW (d + 1) mMo_insert 48 (lMo_insert_48 (qi t) x y z (qi k) w6) [] (hpo X (mup mem 193 0 s) sw o e) P := by
      intro m
      induction m with
      | zero =>
        intro k s hm hk hs w6 hw6
        have hkc : k = col t := by omega
        subst hkc
        have ec : (mup mem 193 0 s) 194 t = qi (col t) := by rw [mup_ce (by decide)]; exact h4.1
        have er : (mup mem 193 0 s) 195 t = qi (row t) := by rw [mup_ce (by decide)]; exact h3.1
        have e0 : 24 * qi t + 3 * qi (row t) = qi (24 * t + 3 * row t) := by
          show qi 24 * qi t + qi 3 * qi (row t) = _
          rw [qi_mul, qi_mul, qi_add]
        have e1 : qi (24 * t + 3 * row t) + 2 = qi (24 * t + 3 * row t + 2) := qi_add _ 2
        have no : ∀ {Q : Prop}, ¬ qi (col t) ≤ qi (col t) → Q := fun hh => absurd ((qi_le (by omega) (by omega)).mpr (Nat.le_refl _)) hh
        refine bMo_insert_48 hX hw6 (qi_inx ht4 (by omega)) (fun _ _ => qi_inx ht4 (by omega)) (fun _ _ => ?_) (fun _ _ => ?_) (fun _ _ => ?_) (fun _ _ => qi_inx ht4 (by omega)) (fun _ _ => qi_inx ht4 (by omega)) (fun _ _ => qi_inx ht4 (by omega)) (fun _ q => ?_) (fun _ q => ?_) (fun q => ?_) (fun q => ?_) (fun q => ?_)
        · rw [qi_N h1, er, e0]; exact qi_inx (by omega) (by omega)
        · rw [qi_N h1, er, e0, qi_1]; exact qi_inx (by omega) (by omega)
        · rw [qi_N h1, er, e0, e1]; exact qi_inx (by omega) (by omega)
        · rw [mup_at] at q
          rcases hs with ⟨rfl, hno⟩ | ⟨rfl, -⟩
          · rw [qi_N h1, er, e0, qi_1, e1, qi_N (by omega), qi_N (by omega), qi_N (by omega)]
            have e3 : ∀ (i j k : Nat) (u v w : Int32), mup (mup (mup (mup mem 193 0 0) 196 i u) 196 j v) 196 k w 195 t = qi (row t) := by
              intro i j k u v w
              rw [mup_ce (by decide), mup_ce (by decide), mup_ce (by decide)]
              exact er
            rw [e3, mup_at, qi_1]
            exact k1 t w2 rfl h5 hno
          · exact absurd q (by decide)
        · rw [mup_at] at q
          rcases hs with ⟨rfl, -⟩ | ⟨rfl, hex⟩
          · exact absurd (by decide) q
          · exact k2 t w2 rfl (Or.inr hex)
        all_goals
          rw [qi_N h1, ec] at q
          exact no q
      | succ m ih =>
        intro k s hm hk hs w6 hw6
        have ec : (mup mem 193 0 s) 194 t = qi (col t) := by rw [mup_ce (by decide)]; exact h4.1
        have er : (mup mem 193 0 s) 195 t = qi (row t) := by rw [mup_ce (by decide)]; exact h3.1
        have ek : (mup mem 193 0 s) 197 = mem 197 := mup_ce (by decide)
        have ece : (mup mem 193 0 s) 196 = mem 196 := mup_ce (by decide)
        have no : ∀ {Q : Prop}, qi (col t) ≤ qi k → Q := fun hh => absurd ((qi_le (by omega) (by omega)).mp hh) (by omega)
        have next : ∀ (v : Int32) (w : Slot), qfr w → v = vl x y z k → QW (d + 1) mMo_insert 80 (lMo_insert_80 (qi t) x y z (qi k) w) [.int v] (hpo X (mup mem 193 0 s) sw o e) P := by
          intro v w hw hv
          have keep : (mem 197 (3 * t + k) = 0 ∨ ∀ i, i < row t → ¬ mem 196 (24 * t + 3 * i + k) = vl x y z k) → QW (d + 1) mMo_insert 113 (lMo_insert_113 (qi t) x y z (qi k) v) [.ref 193] (hpo X (mup mem 193 0 s) sw o e) P := by
            intro hno
            refine bMo_insert_113 hX ?_
            refine bMo_insert_117 hX ?_
            rw [mup_mup, mup_at, qi_1]
            refine ih (k + 1) s (by omega) (by omega) ?_ _ (Or.inr (Or.inl ⟨_, rfl⟩))
            rcases hs with ⟨hs0, hno2⟩ | ⟨hs0, j, hj, hex⟩
            · refine Or.inl ⟨hs0, fun j hj => ?_⟩
              by_cases h : j = k
              · subst h; exact hno
              · exact hno2 j (by omega)
            · exact Or.inr ⟨hs0, j, by omega, hex⟩
          refine bMo_insert_80 hX hw (by rw [hkx]; exact qi_inx (by omega) (by omega)) (fun q => ?_) (fun q => ?_)
          · rw [hkx, qi_N (by omega), ek] at q
            exact keep (Or.inl q)
          · rw [hkx, qi_N (by omega), ek] at q
            refine cMo_having hX ht4 (by omega) er h3.2 (qcl_i ?_)
            rw [ece]
            have hpos := hav_pos (fun r => mem 196 (24 * t + 3 * r + k)) v (row t)
            have hle := hav_le (fun r => mem 196 (24 * t + 3 * r + k)) v (row t)
            refine bMo_insert_106 hX (fun q2 => ?_) (fun q2 => ?_)
            · have q3 : hav (fun r => mem 196 (24 * t + 3 * r + k)) v (row t) ≤ 0 := (qi_le (b := 0) (by omega) (by omega)).mp q2
              refine keep (Or.inr (fun i hi h => ?_))
              have := hpos.mpr ⟨i, hi, h.trans hv.symm⟩
              omega
            · have q3 : ¬ hav (fun r => mem 196 (24 * t + 3 * r + k)) v (row t) ≤ 0 := fun q3 => q2 ((qi_le (b := 0) (by omega) (by omega)).mpr q3)
              have o1 : col t - (k + 1) = m := by clear hs hpos; omega
              have o2 : k + 1 ≤ col t := by clear hs hpos; omega
              have o3 : ∃ i, i < row t ∧ mem 196 (24 * t + 3 * i + k) = v := hpos.mp (by omega)
              have o4 : ∃ i, i < row t ∧ mem 196 (24 * t + 3 * i + k) = vl x y z k := by rw [← hv]; exact o3
              refine bMo_insert_117 hX ?_
              rw [mup_mup, qi_1]
              exact ih (k + 1) 2 o1 o2 (Or.inr ⟨rfl, k, Nat.lt_succ_self k, q, o4⟩) _ (Or.inr (Or.inl ⟨_, rfl⟩))
        refine bMo_insert_48 hX hw6 (qi_inx ht4 (by omega)) (fun q => ?_) (fun q => ?_) (fun q => ?_) (fun q => ?_) (fun q => ?_) (fun q => ?_) (fun q => ?_) (fun q => ?_) (fun q => ?_) (fun _ q2 q3 => next z w6 hw6 ?_) (fun _ q2 q3 => next y w6 hw6 ?_) (fun _ q2 => next x w6 hw6 ?_)
        all_goals first
          | (rw [qi_N h1, ec] at q; exact no q)
          | skip
        · have a0 : ¬ k = 0 := fun h => q2 (by rw [h]; rfl)
          have a1 : ¬ k = 1 := fun h => q3 (by rw [h]; rfl)
          simp [vl, a0, a1]
        · have a1 : k = 1 := qi_inj (b := 1) (by omega) (by omega) q3
          simp [vl, a1]
        · have a0 : k = 0 := qi_inj (b := 0) (by omega) (by omega) q2
          simp [vl, a0]
    exact loop (col t) 0 0 rfl (Nat.zero_le _) (Or.inl ⟨rfl, fun j hj => absurd hj (Nat.not_lt_zero j)⟩) _ (Or.inl rfl)
  · obtain ⟨t, h1, rfl⟩ := qi_of w
    rw [hcn, qi_lt (by omega) (by omega)] at w2
    have h3 := hro t (by omega)
    rw [qi_N h1, h3.1] at w3
    exact bad (by decide) (k2 t w2 rfl (Or.inl (qi_inj (b := 8) (by omega) (by omega) w3)))
  · rintro t h rfl
    rw [hcn, qi_lt (by omega) (by omega)] at w2
    exact w2 h
end TB4
