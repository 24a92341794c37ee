/-- the reference's form at side z, only looked at -/
def mrd (m m0 : Nat → Nat → Int32) (z mb nn : Nat) (st : Nat → Nat) (D : qD) : Prop := mbk m0 mb D ∧ (∀ j q, ¬ (219 ≤ j ∧ j < 224) → m j q = m0 j q) ∧ mfo D m z nn st
section MF4
variable {d : Nat} {P : qE → Prop} {X : qH} {sw : Bool} {o : Int64} {e : List Nat} {mem m0 : Nat → Nat → Int32} {z mb nn : Nat} {D : qD} {st : Nat → Nat}
theorem mrd_mst (h : mrd mem m0 z mb nn st D) : mst mem m0 z mb nn D := ⟨h.2.2.1, h.1, h.2.1, h.2.2.2.2.1, h.2.2.2.1, h.2.2.2.2.2.1.1, fun i hi => (h.2.2.2.2.2.1.2.1 _).mpr ⟨i, hi, rfl⟩⟩
theorem cMo_nodeK {v : Int32} (hX : X.length = 13) (h : mrd mem m0 z mb nn st D) (hv : uN D v ∨ isK D v) (k : ∀ a, nd D nn a → a < 27 → cdn (num2 mem z) a = v → P (.inl (some (.int (qi (32 * z + a)))), hpo X mem sw o e)) : QW d mMo_node 0 (qen 4 [.ref 193, .int (qi z), .int v]) [] (hpo X mem sw o e) P := by
  have all := h.2.2.2.2.2.1.2.1
  have n15 := h.2.2.2.1
  have ok := h.1.1
  refine cMo_node hX (mrd_mst h) (Or.inr ?_) hv (fun a ha ea => k a ha (by have := nd_lt ok ha; omega) ea) (fun _ hN hno => ?_)
  · rcases hv with hv | hv
    · obtain ⟨i, hi, ei⟩ := (all v).mp hv
      exact ⟨i, Or.inl ⟨hi, ei⟩⟩
    · exact ⟨0, Or.inr hv⟩
  · obtain ⟨i, hi, ei⟩ := (all v).mp hN
    exact absurd ei (hno i hi)
theorem cMo_numN {a : Nat} (hX : X.length = 13) (h : mrd mem m0 z mb nn st D) (ha : nd D nn a) (k1 : ∀ i, i < nn → num D (cdn (num2 mem z) a) (num2 mem z i) → (∀ j, i < j → j < nn → ¬ num D (cdn (num2 mem z) a) (num2 mem z j)) → P (.inl (some (.int (qi (32 * z + 12 + i)))), hpo X mem sw o e)) (k0 : (∀ v, ¬ num D (cdn (num2 mem z) a) v) → P (.inl (some (.int (-1))), hpo X mem sw o e)) : QW d mMo_numberOf 0 (qen 5 [.ref 193, .int (qi z), .int (qi (32 * z + a))]) [] (hpo X mem sw o e) P := by
  have fr := h.2.2.2.2.2.1
  have n15 := h.2.2.2.1
  have ok := h.1.1
  have la := nd_lt ok ha
  have conv : ∀ i, i < nn → (num D (cdn (num2 mem z) a) (num2 mem z i) ↔ grp mem z (12 + i) = grp mem z a) := by
    intro i hi
    rw [num_ix fr ha]
    constructor
    · rintro ⟨j, hj, e1, e2⟩
      rw [← fr.1.2 j i hj hi e1]
      exact e2
    · intro q
      exact ⟨i, hi, rfl, q⟩
  refine cMo_numberOf hX h.2.2.1 h.2.2.2.2.1 n15 (by omega) (fun i hi h1 h2 => k1 i hi ((conv i hi).mpr h1) (fun j hj hj2 q => h2 j hj hj2 ((conv j hj2).mp q))) (fun hno => k0 (fun v hv => ?_))
  obtain ⟨i, hi, -, e2⟩ := (num_ix fr ha).mp hv
  exact hno i hi e2
theorem cMo_isEmpty (hX : X.length = 13) (h : mrd mem m0 z mb nn st D) (k1 : Emp D → P (.inl (some (.int 1)), hpo X mem sw o e)) (k0 : ¬ Emp D → P (.inl (some (.int 0)), hpo X mem sw o e)) : QW (d + 1) mMo_isEmpty 0 (qen 9 [.ref 193, .int (qi z), .int (qi mb)]) [] (hpo X mem sw o e) P := by
  have hb := h.1
  have hf := h.2.1
  have hz := h.2.2.1
  have fr := h.2.2.2.2.2.1
  have n15 := h.2.2.2.1
  have hn := h.2.2.2.2.1
  have ok := hb.1
  have hmb := hb.2.1
  have q6 := ok.2.1
  have iz : inx (qi z) 2 := qi_inx hz (by omega)
  have imb : inx (qi mb) 15 := qi_inx hmb (by omega)
  have e6 : (6 : Int32) * qi mb = qi (6 * mb) := by rw [show (6 : Int32) = qi 6 from rfl, qi_mul]
  have e1 : (32 * qi z + 12) + mem 221 (Int32.toNatClampNeg (qi z)) = qi (32 * z + 12 + nn) := by rw [qi_N (by omega), hn, q3212]
  have e2 : (6 * qi mb : Int32) + mem 207 (Int32.toNatClampNeg (qi mb)) = qi (6 * mb + dnc D) := by rw [qi_N (by omega), hf _ _ (by omega), hb.2.2.2.2.1, e6, qi_add]
  -- the conditions
  have lp2 : ∀ f i (a : Int32) w5 w6 w7 w8, i + f = dnc D → qfr w5 → qfr w6 → qfr w7 → qfr w8 → b01 a → (a = 1 ↔ Em1 D ∨ ∃ x, x < i ∧ dls D x ∧ bad D x) → QW (d + 1) mMo_isEmpty 64 (lMo_isEmpty_64 (qi z) (qi mb) a (qi (6 * mb + i)) w5 w6 w7 w8) [] (hpo X mem sw o e) P := by
    intro f
    induction f with
    | zero =>
      intro i a w5 w6 w7 w8 hi h5 h6 h7 h8 ha hiff
      have hle : (6 * qi mb : Int32) + mem 207 (Int32.toNatClampNeg (qi mb)) ≤ qi (6 * mb + i) := by rw [e2]; exact (qi_le (by omega) (by omega)).mpr (by omega)
      refine bMo_isEmpty_64 hX h5 h6 h7 h8 imb (fun _ => by rcases ha with rfl | rfl <;> rfl) (fun _ => ?_) (fun w => absurd hle w) (fun w => absurd hle w)
      have hi' : i = dnc D := by omega
      subst hi'
      rcases ha with rfl | rfl
      · exact k0 (fun w => absurd (hiff.mpr w) (by decide))
      · exact k1 (hiff.mp rfl)
    | succ f ih =>
      intro i a w5 w6 w7 w8 hi h5 h6 h7 h8 ha hiff
      have hle : ¬ (6 * qi mb : Int32) + mem 207 (Int32.toNatClampNeg (qi mb)) ≤ qi (6 * mb + i) := by rw [e2]; exact fun w => absurd ((qi_le (by omega) (by omega)).mp w) (by omega)
      have ii : inx (qi (6 * mb + i)) 90 := qi_inx (by omega) (by omega)
      have NI : Int32.toNatClampNeg (qi (6 * mb + i)) = 6 * mb + i := qi_N (by omega)
      obtain ⟨l1, l2, l3⟩ := hb.2.2.2.2.2.2.2 i (by omega)
      obtain ⟨v1, v2⟩ := ok_l ok (show i < dnc D by omega)
      refine bMo_isEmpty_64 hX h5 h6 h7 h8 imb (fun w => absurd w hle) (fun w => absurd w hle) (fun _ => ii) (fun _ => ?_)
      rw [NI, hf _ _ (by omega), l1]
      refine cMo_nodeK hX h v1 (fun x hx lx ex => qcl_i (bMo_isEmpty_92 hX h5 h6 h7 h8 ii ?_))
      rw [NI, hf _ _ (by omega), l2]
      refine cMo_nodeK hX h v2 (fun y hy ly ey => qcl_i (bMo_isEmpty_106 hX h6 h7 h8 ?_))
      have e219 : mem 219 (Int32.toNatClampNeg (qi (32 * z + x))) = grp mem z x := by rw [qi_N (by omega)]; rfl
      have e219' : mem 219 (Int32.toNatClampNeg (qi (32 * z + y))) = grp mem z y := by rw [qi_N (by omega)]; rfl
      have hxy := fr.2.2 x y hx hy
      rw [ex, ey] at hxy
      have i64 : ∀ x, x < 32 → inx (qi (32 * z + x)) 64 := fun x hx => qi_inx (by omega) (by omega)
      -- what is said behind
      have nxt : ∀ (b : Int32) (p q : Int32), b01 b → (b = 1 ↔ Em1 D ∨ ∃ x, x < i + 1 ∧ dls D x ∧ bad D x) → QW (d + 1) mMo_isEmpty 189 (lMo_isEmpty_189 (qi z) (qi mb) a (qi (6 * mb + i)) (qi (32 * z + x)) (qi (32 * z + y)) p q) [.int b] (hpo X mem sw o e) P := by
        intro b p q hb1 hb2
        refine bMo_isEmpty_189 hX ?_
        rw [qi_1, show 6 * mb + i + 1 = 6 * mb + (i + 1) by omega]
        exact ih (i + 1) b _ _ _ _ (by omega) (Or.inr (Or.inl ⟨_, rfl⟩)) (Or.inr (Or.inl ⟨_, rfl⟩)) (Or.inr (Or.inl ⟨_, rfl⟩)) (Or.inr (Or.inl ⟨_, rfl⟩)) hb1 hb2
      have yes : ∀ p q, (Em1 D ∨ ∃ x, x < i + 1 ∧ dls D x ∧ bad D x) → QW (d + 1) mMo_isEmpty 184 (lMo_isEmpty_184 (qi z) (qi mb) a (qi (6 * mb + i)) (qi (32 * z + x)) (qi (32 * z + y)) p q) [] (hpo X mem sw o e) P := fun p q w => bMo_isEmpty_184 hX (nxt 1 p q (Or.inr rfl) ⟨fun _ => w, fun _ => rfl⟩)
      have no : ∀ p q, a = 0 → ¬ (dls D i ∧ bad D i) → QW (d + 1) mMo_isEmpty 188 (lMo_isEmpty_188 (qi z) (qi mb) a (qi (6 * mb + i)) (qi (32 * z + x)) (qi (32 * z + y)) p q) [] (hpo X mem sw o e) P := by
        intro p q ha0 w
        refine bMo_isEmpty_188 hX (nxt 0 p q (Or.inl rfl) ⟨fun r => absurd r (by decide), fun r => ?_⟩)
        exfalso
        have : a = 1 := hiff.mpr (by
          rcases r with r | ⟨x', r1, r2⟩
          · exact Or.inl r
          · by_cases ex' : x' = i
            · rw [ex'] at r2
              exact absurd r2 w
            · exact Or.inr ⟨x', by omega, r2⟩)
        rw [ha0] at this
        exact absurd this (by decide)
      have a1 : ¬ a = 0 → Em1 D ∨ ∃ x, x < i + 1 ∧ dls D x ∧ bad D x := by
        intro w
        have : a = 1 := by
          rcases ha with ha | ha
          · exact absurd ha w
          · exact ha
        rcases hiff.mp this with r | ⟨x', r1, r2⟩
        · exact Or.inl r
        · exact Or.inr ⟨x', by omega, r2⟩
      have e0 : a = 0 → ¬ Em1 D := fun w q => by
        have := hiff.mpr (Or.inl q)
        rw [w] at this
        exact absurd this (by decide)
      have el : mem 210 (Int32.toNatClampNeg (qi (6 * mb + i))) = m0 210 (6 * mb + i) := by rw [NI, hf _ _ (by omega)]
      have fin : ∀ p q : Int32, ((∃ i1, i1 < nn ∧ p = qi (32 * z + 12 + i1) ∧ num D (dlf D i) (num2 mem z i1)) ∨ (p = -1 ∧ ∀ v, ¬ num D (dlf D i) v)) → ((∃ i1, i1 < nn ∧ q = qi (32 * z + 12 + i1) ∧ num D (drg D i) (num2 mem z i1)) ∨ (q = -1 ∧ ∀ v, ¬ num D (drg D i) v)) → QW (d + 1) mMo_isEmpty 124 (lMo_isEmpty_124 (qi z) (qi mb) a (qi (6 * mb + i)) (qi (32 * z + x)) (qi (32 * z + y)) p w8) [.int q] (hpo X mem sw o e) P := by
        intro p q hp hq
        have hp0 : p < 0 → ∀ v, ¬ num D (dlf D i) v := by
          intro w
          rcases hp with ⟨i1, t1, t2, t3⟩ | ⟨t1, t2⟩
          · rw [t2] at w
            exact absurd w (qi_p (by omega))
          · exact t2
        have hq0 : q < 0 → ∀ v, ¬ num D (drg D i) v := by
          intro w
          rcases hq with ⟨i1, t1, t2, t3⟩ | ⟨t1, t2⟩
          · rw [t2] at w
            exact absurd w (qi_p (by omega))
          · exact t2
        have hp1 : ¬ p < 0 → ∃ i1, i1 < nn ∧ p = qi (32 * z + 12 + i1) ∧ num D (dlf D i) (num2 mem z i1) := by
          intro w
          rcases hp with t | ⟨t1, t2⟩
          · exact t
          · rw [t1] at w
            exact absurd (by decide) w
        have hq1 : ¬ q < 0 → ∃ i1, i1 < nn ∧ q = qi (32 * z + 12 + i1) ∧ num D (drg D i) (num2 mem z i1) := by
          intro w
          rcases hq with t | ⟨t1, t2⟩
          · exact t
          · rw [t1] at w
            exact absurd (by decide) w
        refine bMo_isEmpty_124 hX h8 (fun w => yes _ _ (a1 w)) (fun _ => ii) (fun w1 w2 => no _ _ w1 (fun t => l3.mp t.1 (by rw [el] at w2; exact w2))) (fun _ _ => i64 x (by omega)) (fun _ _ => i64 y (by omega)) (fun w1 w2 w3 => yes _ _ (Or.inr ⟨i, by omega, l3.mpr (by rw [el] at w2; exact w2), Or.inl (hxy.mp (by rw [e219, e219'] at w3; exact w3))⟩)) (fun w1 w2 w3 w4 => no _ _ w1 (fun t => ?_)) (fun w1 w2 w3 w4 w5 => no _ _ w1 (fun t => ?_)) (fun _ _ _ w4 _ => ?_) (fun _ _ _ _ w5 => ?_) (fun w1 w2 w3 w4 w5 w6 => no _ _ w1 (fun t => ?_)) (fun w1 w2 w3 w4 w5 w6 => yes _ _ (Or.inr ⟨i, by omega, l3.mpr (by rw [el] at w2; exact w2), ?_⟩))
        · rw [e219, e219', hxy] at w3
          rcases t.2 with t | ⟨v, w, t1, t2, t3⟩
          · exact w3 t
          · exact hp0 w4 v t1
        · rw [e219, e219', hxy] at w3
          rcases t.2 with t | ⟨v, w, t1, t2, t3⟩
          · exact w3 t
          · exact hq0 w5 w t2
        · obtain ⟨i1, t1, t2, t3⟩ := hp1 w4
          rw [t2]; exact qi_inx (by omega) (by omega)
        · obtain ⟨i1, t1, t2, t3⟩ := hq1 w5
          rw [t2]; exact qi_inx (by omega) (by omega)
        · rw [e219, e219', hxy] at w3
          obtain ⟨i1, t1, t2, t3⟩ := hp1 w4
          obtain ⟨i2, s1, s2, s3⟩ := hq1 w5
          rw [t2, s2, qi_N (by omega), qi_N (by omega)] at w6
          have lt := (i2k_lt t3.1.1 s3.1.1).mp w6
          rcases t.2 with t | ⟨v, w, p1, p2, p3⟩
          · exact w3 t
          · rw [num_u (e0 w1) p1 t3, num_u (e0 w1) p2 s3] at p3
            exact Int32.not_le.mpr lt p3
        · obtain ⟨i1, t1, t2, t3⟩ := hp1 w4
          obtain ⟨i2, s1, s2, s3⟩ := hq1 w5
          rw [t2, s2, qi_N (by omega), qi_N (by omega)] at w6
          refine Or.inr ⟨_, _, t3, s3, Int32.not_lt.mp (fun q => w6 ((i2k_lt t3.1.1 s3.1.1).mpr q))⟩
      have second : ∀ p : Int32, ((∃ i1, i1 < nn ∧ p = qi (32 * z + 12 + i1) ∧ num D (dlf D i) (num2 mem z i1)) ∨ (p = -1 ∧ ∀ v, ¬ num D (dlf D i) v)) → QW (d + 1) mMo_isEmpty 115 (lMo_isEmpty_115 (qi z) (qi mb) a (qi (6 * mb + i)) (qi (32 * z + x)) (qi (32 * z + y)) w7 w8) [.int p] (hpo X mem sw o e) P := by
        intro p hp
        refine bMo_isEmpty_115 hX h7 h8 (cMo_numN hX h hy (fun i1 t1 t2 t3 => qcl_i (fin p _ hp (Or.inl ⟨i1, t1, rfl, by rw [ey] at t2; exact t2⟩))) (fun t => qcl_i (fin p _ hp (Or.inr ⟨rfl, by rw [ey] at t; exact t⟩))))
      exact cMo_numN hX h hx (fun i1 t1 t2 t3 => qcl_i (second _ (Or.inl ⟨i1, t1, rfl, by rw [ex] at t2; exact t2⟩))) (fun t => qcl_i (second _ (Or.inr ⟨rfl, by rw [ex] at t; exact t⟩)))
  -- the numbers
  have lp1 : ∀ f i (a : Int32), i + f = nn → b01 a → (a = 1 ↔ ∃ x y, x < i ∧ x < y ∧ y < nn ∧ grp mem z (12 + x) = grp mem z (12 + y)) → QW (d + 1) mMo_isEmpty 11 (lMo_isEmpty_11 (qi z) (qi mb) a (qi (32 * z + 12 + i))) [] (hpo X mem sw o e) P := by
    intro f
    induction f with
    | zero =>
      intro i a hi ha hiff
      obtain rfl : i = nn := by omega
      have hle : (32 * qi z + 12) + mem 221 (Int32.toNatClampNeg (qi z)) ≤ qi (32 * z + 12 + i) := by rw [e1]; exact Int32.le_refl _
      refine bMo_isEmpty_11 hX iz (fun _ => ?_) (fun w => absurd hle w) (fun w => absurd hle w)
      rw [e6]
      refine lp2 (dnc D) 0 a .unset .unset .unset .unset (by omega) (Or.inl rfl) (Or.inl rfl) (Or.inl rfl) (Or.inl rfl) ha ?_
      rw [hiff, Em1_ix fr]
      constructor
      · rintro ⟨x, y, t1, t2, t3, t4⟩
        exact Or.inl ⟨x, y, t2, t3, t4⟩
      · rintro (⟨x, y, t2, t3, t4⟩ | ⟨x, t1, _⟩)
        · exact ⟨x, y, by omega, t2, t3, t4⟩
        · exact absurd t1 (by omega)
    | succ f ih =>
      intro i a hi ha hiff
      have hle : ¬ (32 * qi z + 12) + mem 221 (Int32.toNatClampNeg (qi z)) ≤ qi (32 * z + 12 + i) := by rw [e1]; exact fun w => absurd ((qi_le (by omega) (by omega)).mp w) (by omega)
      have nxt : ∀ b : Int32, b01 b → (b = 1 ↔ ∃ x y, x < i + 1 ∧ x < y ∧ y < nn ∧ grp mem z (12 + x) = grp mem z (12 + y)) → QW (d + 1) mMo_isEmpty 51 (lMo_isEmpty_51 (qi z) (qi mb) a (qi (32 * z + 12 + i))) [.int b] (hpo X mem sw o e) P := by
        intro b hb1 hb2
        refine bMo_isEmpty_51 hX ?_
        rw [qi_1, show 32 * z + 12 + i + 1 = 32 * z + 12 + (i + 1) by omega]
        exact ih (i + 1) b (by omega) hb1 hb2
      have yes : (∃ x y, x < i + 1 ∧ x < y ∧ y < nn ∧ grp mem z (12 + x) = grp mem z (12 + y)) → QW (d + 1) mMo_isEmpty 46 (lMo_isEmpty_46 (qi z) (qi mb) a (qi (32 * z + 12 + i))) [] (hpo X mem sw o e) P := fun w => bMo_isEmpty_46 hX (nxt 1 (Or.inr rfl) ⟨fun _ => w, fun _ => rfl⟩)
      refine bMo_isEmpty_11 hX iz (fun w => absurd w hle) (fun _ w => yes ?_) (fun _ w => ?_)
      · have : a = 1 := by
          rcases ha with ha | ha
          · exact absurd ha w
          · exact ha
        obtain ⟨x, y, t1, t2⟩ := hiff.mp this
        exact ⟨x, y, by omega, t2⟩
      · rw [show 32 * z + 12 + i = 32 * z + (12 + i) by omega]
        refine cMo_numberOf hX hz hn n15 (by omega) (fun j hj g1 g2 => qcl_i ?_) (fun g1 => absurd rfl (g1 i (by omega)))
        rw [show 32 * z + (12 + i) = 32 * z + 12 + i by omega]
        refine bMo_isEmpty_41 hX (fun t => nxt 0 (Or.inl rfl) ⟨fun r => absurd r (by decide), fun r => ?_⟩) (fun t => yes ?_)
        · have hji : j = i := by
            have := qi_inj (by omega) (by omega) t
            omega
          subst hji
          exfalso
          obtain ⟨x, y, t1, t2, t3, t4⟩ := r
          by_cases ex : x = j
          · subst ex
            exact g2 y t2 t3 t4.symm
          · have := hiff.mpr ⟨x, y, by omega, t2, t3, t4⟩
            rw [w] at this
            exact absurd this (by decide)
        · have hji : j ≠ i := fun q => t (by rw [q])
          rcases Nat.lt_or_gt_of_ne hji with q | q
          · exact absurd rfl (g2 i q (by omega))
          · exact ⟨i, j, by omega, q, hj, g1.symm⟩
  have := lp1 nn 0 0 (by omega) (Or.inl rfl) ⟨fun w => absurd w (by decide), fun ⟨x, y, w, _⟩ => absurd w (by omega)⟩
  refine bMo_isEmpty_0 hX ?_
  rw [show (32 * qi z + 12 : Int32) = qi (32 * z + 12) from qf32 z 12]
  exact this
end MF4
