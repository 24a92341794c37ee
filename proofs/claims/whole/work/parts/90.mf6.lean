/-- the numbers of column k go together -/
def cod (D E : qD) (p : Nat → Nat) (k : Nat) : Prop := ∀ v, num D (cc (k / 3) (k - k / 3 * 3)) v ↔ num E (cc (p (k / 3)) (k - k / 3 * 3)) v
/-- the classes of columns j and k go together -/
def pco (D E : qD) (p : Nat → Nat) (j k : Nat) : Prop := eqv D (cc (j / 3) (j - j / 3 * 3)) (cc (k / 3) (k - k / 3 * 3)) ↔ eqv E (cc (p (j / 3)) (j - j / 3 * 3)) (cc (p (k / 3)) (k - k / 3 * 3))
section MF6
variable {d : Nat} {P : qE → Prop} {X : qH} {sw : Bool} {o : Int64} {e : List Nat} {mem m0 : Nat → Nat → Int32} {D E : qD} {b1 b2 n1 n2 : Nat} {s1 s2 p : Nat → Nat} {z mb nn : Nat} {st : Nat → Nat}
theorem cft_of (ok : okD D) (h : ∀ k, k < 12 → stc D k → cod D E p k ∧ ∀ j, j < k → stc D j → pco D E p j k) : cft D E p := by
  intro s c hs hc
  obtain ⟨t1, t2, t3, t4⟩ := stc_sc ok hs hc
  obtain ⟨h1, h2⟩ := h _ t4 t1
  unfold cod at h1
  rw [t3, t2] at h1
  refine ⟨h1, fun s' c' hs' hc' => ?_⟩
  obtain ⟨u1, u2, u3, u4⟩ := stc_sc ok hs' hc'
  rcases Nat.lt_trichotomy (3 * s' + c') (3 * s + c) with q | q | q
  · have := h2 _ q u1
    unfold pco at this
    rw [t3, t2, u3, u2] at this
    exact this
  · rw [q, t2] at u2
    rw [q, t3] at u3
    subst u2
    subst u3
    exact ⟨fun _ => eqv_r _, fun _ => eqv_r _⟩
  · have := (h _ u4 u1).2 _ q t1
    unfold pco at this
    rw [t3, t2, u3, u2] at this
    exact ⟨fun w => eqv_s (this.mp (eqv_s w)), fun w => eqv_s (this.mpr (eqv_s w))⟩
theorem cMo_numX {a : Nat} (hX : X.length = 13) (h : mrd mem m0 z mb nn st D) (ha : nd D nn a) (k : ∀ x : Int32, ((∃ i, i < nn ∧ x = qi (32 * z + 12 + i) ∧ num D (cdn (num2 mem z) a) (num2 mem z i)) ∨ (x = -1 ∧ ∀ v, ¬ num D (cdn (num2 mem z) a) v)) → P (.inl (some (.int x)), hpo X mem sw o e)) : QW d mMo_numberOf 0 (qen 5 [.ref 193, .int (qi z), .int (qi (32 * z + a))]) [] (hpo X mem sw o e) P :=
  cMo_numN hX h ha (fun i h1 h2 _ => k _ (Or.inl ⟨i, h1, rfl, h2⟩)) (fun h1 => k _ (Or.inr ⟨rfl, h1⟩))
theorem cg_at (hA : mrd mem m0 0 b1 n1 s1 D) {k : Nat} (hk : k < 12) : inx (qi b1) 15 ∧ inx (qi k / 3) 8 ∧ inx (qi k / 3) 4 ∧ (mem 204 (Int32.toNatClampNeg (qi b1)) ≤ qi k / 3 ↔ dns D ≤ k / 3) ∧ (k / 3 < dns D → (mem 222 (Int32.toNatClampNeg (qi k / 3)) = qi k / 3 ↔ std D (k / 3)) ∧ inx (4 * qi b1 + qi k / 3) 60 ∧ inx (mem 205 (Int32.toNatClampNeg (4 * qi b1 + qi k / 3))) 4 ∧ (mem 194 (Int32.toNatClampNeg (mem 205 (Int32.toNatClampNeg (4 * qi b1 + qi k / 3)))) ≤ qi k - qi k / 3 * 3 ↔ dcl D (k / 3) ≤ k - k / 3 * 3)) := by
  have hb := hA.1
  have hf := hA.2.1
  have ok := hb.1
  have hmb := hb.2.1
  have q4' := ok.1.2
  have sta := hA.2.2.2.2.2.2
  have e4 : mem 204 (Int32.toNatClampNeg (qi b1)) = qi (dns D) := by rw [qi_N (by omega), hf _ _ (by omega)]; exact hb.2.2.2.1
  have N3 : Int32.toNatClampNeg (qi (k / 3)) = k / 3 := qi_N (by omega)
  have e60 : (4 : Int32) * qi b1 + qi (k / 3) = qi (4 * b1 + k / 3) := qf4 _ _
  rw [qm3 (by omega), qd3 (by omega), e4, N3, e60]
  refine ⟨qi_inx hmb (by omega), qi_inx (by omega) (by omega), qi_inx (by omega) (by omega), qi_le (by omega) (by omega), fun hlt => ?_⟩
  have tt := hb.2.2.2.2.2.1 (k / 3) hlt
  have rr := ok.2.2.2.1 (k / 3) hlt
  have ss := sta (k / 3) hlt
  rw [show 4 * 0 + k / 3 = k / 3 by omega] at ss
  refine ⟨?_, qi_inx (by omega) (by omega), ?_, ?_⟩
  · rw [ss.1]
    exact ⟨fun w => ss.2.1.mp (qi_inj (by omega) (by omega) w), fun w => by rw [ss.2.1.mpr w]⟩
  · rw [qi_N (by omega), hf 205 _ (by omega), tt.1]
    exact qi_inx (by omega) (by omega)
  · rw [qi_N (by omega), hf 205 _ (by omega), tt.1, qi_N (by omega), hf 194 _ (by omega), tt.2.1]
    exact qi_le (by omega) (by omega)
theorem cMo_classesGo (hX : X.length = 13) (h : prs mem m0 D E b1 b2 n1 n2 s1 s2 p) (kt : cft D E p → P (.inl (some (.int 1)), hpo X mem sw o e)) (kf : ¬ cft D E p → P (.inl (some (.int 0)), hpo X mem sw o e)) : QW (d + 1) mMo_classesGo 0 (qen 7 [.ref 193, .int (qi b1)]) [] (hpo X mem sw o e) P := by
  obtain ⟨hA, hB, nA, nB, hcat, hp⟩ := h
  have ok := hA.1.1
  have okB := hB.1.1
  have b4 := okB.1.2
  have a4 := ok.1.2
  have frA := hA.2.2.2.2.2.1
  have frB := hB.2.2.2.2.2.1
  have n15 := hA.2.2.2.1
  have n15' := hB.2.2.2.1
  have eA : ¬ Em1 D := fun z => nA (Or.inl z)
  have eB : ¬ Em1 E := fun z => nB (Or.inl z)
  have nodeA : ∀ k, stc D k → nd D n1 k ∧ cdn (num2 mem 0) k = cc (k / 3) (k - k / 3 * 3) := by
    intro k hk
    have := nd_col ok (nn := n1) (nu := num2 mem 0) hk.1.1 hk.2
    rw [show 3 * (k / 3) + (k - k / 3 * 3) = k by omega] at this
    exact this
  have nodeB : ∀ k, stc D k → nd E n2 (3 * p (k / 3) + (k - k / 3 * 3)) ∧ cdn (num2 mem 1) (3 * p (k / 3) + (k - k / 3 * 3)) = cc (p (k / 3)) (k - k / 3 * 3) := by
    intro k hk
    have pp := hp _ hk.1
    have hd := hcat _ _ hk.1.1 pp.2.1.1 pp.2.2
    have := hk.2
    exact nd_col okB (nn := n2) (nu := num2 mem 1) pp.2.1.1 (by omega)
  have pix : ∀ k, k < 12 → stc D k → (32 + 3 * mem 223 (Int32.toNatClampNeg (qi k / 3))) + (qi k - qi k / 3 * 3) = qi (32 * 1 + (3 * p (k / 3) + (k - k / 3 * 3))) := by
    intro k h12 hk
    rw [qm3 (by omega), qd3 (by omega), qi_N (by omega), (hp _ hk.1).1, show (32 : Int32) = qi 32 from rfl, show (3 : Int32) = qi 3 from rfl, qi_mul, qi_add, qi_add, Nat.add_assoc]
  have pps : ∀ k, stc D k → p (k / 3) < 4 := fun k hk => by have := (hp _ hk.1).2.1.1; omega
  have lp : ∀ f k w3 w4 w5 w6, k + f = 12 → qfr w3 → qfr w4 → qfr w5 → qfr w6 → (∀ k', k' < k → stc D k' → cod D E p k' ∧ ∀ j, j < k' → stc D j → pco D E p j k') → QW (d + 1) mMo_classesGo 2 (lMo_classesGo_2 (qi b1) (qi k) w3 w4 w5 w6) [] (hpo X mem sw o e) P := by
    intro f
    induction f with
    | zero =>
      intro k w3 w4 w5 w6 hk h3 h4 h5 h6 hinv
      obtain rfl : k = 12 := by omega
      have hle : (12 : Int32) ≤ qi 12 := by decide
      exact bMo_classesGo_2 hX h3 h4 h5 h6 (fun _ => kt (cft_of ok hinv)) (fun w => absurd hle w) (fun w => absurd hle w) (fun w => absurd hle w) (fun w => absurd hle w) (fun w => absurd hle w) (fun w => absurd hle w) (fun w => absurd hle w) (fun w => absurd hle w) (fun w => absurd hle w)
    | succ f ih =>
      intro k w3 w4 w5 w6 hk h3 h4 h5 h6 hinv
      have hle : ¬ (12 : Int32) ≤ qi k := fun w => absurd ((qi_le (a := 12) (by omega) (by omega)).mp w) (by omega)
      obtain ⟨g1, g2, g3, g4, g5⟩ := cg_at hA (show k < 12 by omega)
      have nxt : ∀ w3 w4 w5 w6, qfr w3 → qfr w4 → qfr w5 → qfr w6 → (stc D k → cod D E p k ∧ ∀ j, j < k → stc D j → pco D E p j k) → QW (d + 1) mMo_classesGo 2 (lMo_classesGo_2 (qi b1) (qi k + 1) w3 w4 w5 w6) [] (hpo X mem sw o e) P := by
        intro w3 w4 w5 w6 h3 h4 h5 h6 hn
        rw [qi_1]
        refine ih (k + 1) _ _ _ _ (by omega) h3 h4 h5 h6 (fun k' hk' hs => ?_)
        by_cases ek : k' = k
        · subst ek; exact hn hs
        · exact hinv k' (by omega) hs
      have lt' : ∀ x : Nat, ¬ dns D ≤ x → x < dns D := fun x hx => by omega
      refine bMo_classesGo_2 hX h3 h4 h5 h6 (fun w => absurd w hle) (fun _ => g1) (fun _ w => nxt _ _ _ _ h3 h4 h5 h6 (fun q => ?_)) (fun _ _ => g2) (fun _ w w2 => nxt _ _ _ _ h3 h4 h5 h6 (fun q => absurd ((g5 q.1.1).1.mpr q.1) w2)) (fun _ w _ => (g5 (lt' _ (fun q => w (g4.mpr q)))).2.1) (fun _ w _ => (g5 (lt' _ (fun q => w (g4.mpr q)))).2.2.1) (fun _ w w2 w3 => nxt _ _ _ _ h3 h4 h5 h6 (fun q => ?_)) (fun _ _ _ _ => g3) (fun _ w w2 w3 => ?_)
      · have := q.1.1; have := g4.mp w; omega
      · have := (g5 q.1.1).2.2.2.mp w3; have := q.2; omega
      have hlt : k / 3 < dns D := lt' _ (fun q => w (g4.mpr q))
      obtain ⟨g6, g7, g8, g9⟩ := g5 hlt
      have hk2 : stc D k := by
        refine ⟨g6.mp w2, ?_⟩
        have : ¬ dcl D (k / 3) ≤ k - k / 3 * 3 := fun q => w3 (g9.mpr q)
        omega
      rw [pix k (by omega) hk2]
      obtain ⟨a1, a2⟩ := nodeA k hk2
      obtain ⟨c1, c2⟩ := nodeB k hk2
      have p4 := pps k hk2
      have nx := cMo_numX (d := d) (z := 0) (sw := sw) (o := o) (e := e) (P := qcl d mMo_classesGo 78 81 (lMo_classesGo_81 (qi b1) (qi k) (qi (32 * 1 + (3 * p (k / 3) + (k - k / 3 * 3)))) w4 w5 w6) [] P) hX hA a1
      rw [show 32 * 0 + k = k by omega] at nx
      refine nx (fun x hx => qcl_i (bMo_classesGo_81 hX h4 h5 h6 (cMo_numX (z := 1) hX hB c1 (fun y hy => qcl_i ?_))))
      have hxy := num_cmp (z1 := 0) (z2 := 1) eA eB hx hy ⟨by omega, by omega, n15, n15'⟩
      rw [a2, c2] at hxy
      have ix : 0 ≤ x → inx x 64 := by
        intro q
        rcases hx with ⟨i, i1, rfl, -⟩ | ⟨rfl, -⟩
        · exact qi_inx (by omega) (by omega)
        · exact absurd q (by decide)
      have iy : 0 ≤ y → inx y 64 := by
        intro q
        rcases hy with ⟨i, i1, rfl, -⟩ | ⟨rfl, -⟩
        · exact qi_inx (by omega) (by omega)
        · exact absurd q (by decide)
      have noc : ¬ cod D E p k → P (.inl (some (.int 0)), hpo X mem sw o e) := by
        intro q
        refine kf (fun hcf => q ?_)
        have := (hcf (k / 3) (k - k / 3 * 3) hk2.1 hk2.2).1
        exact this
      have at138 : cod D E p k → QW (d + 1) mMo_classesGo 138 (lMo_classesGo_138 (qi b1) (qi k) (qi (32 * 1 + (3 * p (k / 3) + (k - k / 3 * 3)))) x y w6) [] (hpo X mem sw o e) P := by
        intro hcod
        have lp2 : ∀ g j, j + g = k → (∀ j', j' < j → stc D j' → pco D E p j' k) → QW (d + 1) mMo_classesGo 141 (lMo_classesGo_141 (qi b1) (qi k) (qi (32 * 1 + (3 * p (k / 3) + (k - k / 3 * 3)))) x y (qi j)) [] (hpo X mem sw o e) P := by
          intro g
          induction g with
          | zero =>
            intro j hj hin
            have hle : qi k ≤ qi j := (qi_le (by omega) (by omega)).mpr (by omega)
            refine bMo_classesGo_141 hX (fun _ => nxt _ _ _ _ (Or.inr (Or.inl ⟨_, rfl⟩)) (Or.inr (Or.inl ⟨_, rfl⟩)) (Or.inr (Or.inl ⟨_, rfl⟩)) (Or.inr (Or.inl ⟨_, rfl⟩)) (fun _ => ⟨hcod, fun j' hj' => hin j' (by omega)⟩)) (fun w => absurd hle w) (fun w => absurd hle w) (fun w => absurd hle w) (fun w => absurd hle w) (fun w => absurd hle w) (fun w => absurd hle w) (fun w => absurd hle w) (fun w => absurd hle w) (fun w => absurd hle w)
          | succ g ih2 =>
            intro j hj hin
            have hle : ¬ qi k ≤ qi j := fun w => absurd ((qi_le (by omega) (by omega)).mp w) (by omega)
            obtain ⟨r1, r2, r3, r4, r5⟩ := cg_at hA (show j < 12 by omega)
            obtain ⟨r6, r7, r8, r9⟩ := r5 (by omega)
            have nxt2 : (stc D j → pco D E p j k) → QW (d + 1) mMo_classesGo 141 (lMo_classesGo_141 (qi b1) (qi k) (qi (32 * 1 + (3 * p (k / 3) + (k - k / 3 * 3)))) x y (qi j + 1)) [] (hpo X mem sw o e) P := by
              intro hn
              rw [qi_1]
              refine ih2 (j + 1) (by omega) (fun j' hj' hs => ?_)
              by_cases ej : j' = j
              · subst ej; exact hn hs
              · exact hin j' (by omega) hs
            have both : ∀ s0 : Int32, stc D j → ((s0 = 1 ↔ eqv D (cc (j / 3) (j - j / 3 * 3)) (cc (k / 3) (k - k / 3 * 3))) ∧ b01 s0) → QW (d + 1) mMo_classesGo 209 (lMo_classesGo_209 (qi b1) (qi k) (qi (32 * 1 + (3 * p (k / 3) + (k - k / 3 * 3)))) x y (qi j)) [.int s0] (hpo X mem sw o e) P := by
              intro s0 hj2 hs0
              obtain ⟨v1, v2⟩ := nodeB j hj2
              have pj4 := pps j hj2
              have hfr := frB.2.2 _ _ v1 c1
              rw [v2, c2, gr1, gr1] at hfr
              refine bMo_classesGo_209 hX r3 ?_ ?_ (fun w => ?_) (fun w => ?_)
              · rw [pix j (by omega) hj2]; exact qi_inx (by omega) (by omega)
              · exact qi_inx (by omega) (by omega)
              · rw [pix j (by omega) hj2, qi_N (by omega), qi_N (by omega)] at w
                have w : ¬ eqv E (cc (p (j / 3)) (j - j / 3 * 3)) (cc (p (k / 3)) (k - k / 3 * 3)) := fun q => w (hfr.mpr q)
                refine bMo_classesGo_247 hX (fun q => nxt2 (fun _ => ?_)) (fun q => kf (fun hcf => ?_))
                · refine ⟨fun t => ?_, fun t => absurd t w⟩
                  have := hs0.1.mpr t
                  rw [q] at this
                  exact absurd this (by decide)
                · have := (hcf _ _ hk2.1 hk2.2).2 _ _ hj2.1 hj2.2
                  rcases hs0.2 with t | t
                  · exact q t
                  · exact w (this.mp (hs0.1.mp t))
              · rw [pix j (by omega) hj2, qi_N (by omega), qi_N (by omega)] at w
                have w := hfr.mp w
                refine bMo_classesGo_247 hX (fun q => nxt2 (fun _ => ⟨fun _ => w, fun _ => hs0.1.mp q⟩)) (fun q => kf (fun hcf => ?_))
                have := (hcf _ _ hk2.1 hk2.2).2 _ _ hj2.1 hj2.2
                exact q (hs0.1.mpr (this.mpr w))
            have mk : mem 222 (Int32.toNatClampNeg (qi j / 3)) = qi j / 3 → ¬ mem 194 (Int32.toNatClampNeg (mem 205 (Int32.toNatClampNeg (4 * qi b1 + qi j / 3)))) ≤ qi j - qi j / 3 * 3 → stc D j := by
              intro w w2
              refine ⟨r6.mp w, ?_⟩
              have : ¬ dcl D (j / 3) ≤ j - j / 3 * 3 := fun q => w2 (r9.mpr q)
              omega
            have hfr : stc D j → (mem 219 (Int32.toNatClampNeg (qi j)) = mem 219 (Int32.toNatClampNeg (qi k)) ↔ eqv D (cc (j / 3) (j - j / 3 * 3)) (cc (k / 3) (k - k / 3 * 3))) := by
              intro hj2
              obtain ⟨v1, v2⟩ := nodeA j hj2
              have := frA.2.2 _ _ v1 a1
              rw [v2, a2, gr0, gr0] at this
              rw [qi_N (by omega), qi_N (by omega)]
              exact this
            refine bMo_classesGo_141 hX (fun w => absurd w hle) (fun _ => r2) (fun _ w => nxt2 (fun q => absurd (r6.mpr q.1) w)) (fun _ _ => r7) (fun _ _ => r8) (fun _ _ w => nxt2 (fun q => ?_)) (fun _ _ _ => qi_inx (by omega) (by omega)) (fun _ _ _ => qi_inx (by omega) (by omega)) (fun _ w w2 w3 => both 0 (mk w w2) ⟨⟨fun q => absurd q (by decide), fun q => absurd ((hfr (mk w w2)).mpr q) w3⟩, Or.inl rfl⟩) (fun _ w w2 w3 => both 1 (mk w w2) ⟨⟨fun _ => (hfr (mk w w2)).mp w3, fun _ => rfl⟩, Or.inr rfl⟩)
            have := r9.mp w; have := q.2; omega
        exact bMo_classesGo_138 hX h6 (lp2 k 0 (by omega) (fun j' hj' => absurd hj' (by omega)))
      have dd : (0 : Int32) ≠ 1 := by decide
      have n0 : ∀ x : Int32, 0 ≤ x → ¬ x < 0 := fun x hx => Int32.not_lt.mpr hx
      refine bMo_classesGo_89 hX h5 h6 (fun wx => bMo_classesGo_101 hX h6 (fun wy => ?_) (fun wy => ?_)) (fun wx => bMo_classesGo_101 hX h6 (fun wy => ?_) (fun wy => ?_))
      · exact bMo_classesGo_111 hX h6 (fun w => absurd rfl w) (fun _ w => absurd w (n0 _ wx)) (fun _ _ => ix wx) (fun _ _ => iy wy) (fun _ _ w => at138 (hxy.mpr ⟨⟨fun _ => wy, fun _ => wx⟩, fun _ => w⟩)) (fun _ _ w => noc (fun q => w ((hxy.mp q).2 wx)))
      · exact bMo_classesGo_111 hX h6 (fun _ => noc (fun q => wy ((hxy.mp q).1.mp wx))) (fun w => absurd w (by decide)) (fun w => absurd w (by decide)) (fun w => absurd w (by decide)) (fun w => absurd w (by decide)) (fun w => absurd w (by decide))
      · exact bMo_classesGo_111 hX h6 (fun _ => noc (fun q => wx ((hxy.mp q).1.mpr wy))) (fun w => absurd w (by decide)) (fun w => absurd w (by decide)) (fun w => absurd w (by decide)) (fun w => absurd w (by decide)) (fun w => absurd w (by decide))
      · have wx' : x < 0 := Int32.not_le.mp wx
        exact bMo_classesGo_111 hX h6 (fun w => absurd rfl w) (fun _ _ => at138 (hxy.mpr ⟨⟨fun q => absurd q wx, fun q => absurd q wy⟩, fun q => absurd q wx⟩)) (fun _ w => absurd wx' w) (fun _ w => absurd wx' w) (fun _ w => absurd wx' w) (fun _ w => absurd wx' w)
  exact bMo_classesGo_0 hX (lp 12 0 .unset .unset .unset .unset (by omega) (Or.inl rfl) (Or.inl rfl) (Or.inl rfl) (Or.inl rfl) (fun k' hk' => absurd hk' (by omega)))
theorem cMo_isOpen {i : Nat} (hX : X.length = 13) (h : mrd mem m0 z mb nn st D) (hi : i < dnc D) (kt : opn D i → P (.inl (some (.int 1)), hpo X mem sw o e)) (kf : ¬ opn D i → P (.inl (some (.int 0)), hpo X mem sw o e)) : QW (d + 1) mMo_isOpen 0 (qen 3 [.ref 193, .int (qi z), .int (qi (6 * mb + i))]) [] (hpo X mem sw o e) P := by
  have hb := h.1
  have hf := h.2.1
  have ok := hb.1
  have hmb := hb.2.1
  have q6 := ok.2.1
  have ii : inx (qi (6 * mb + i)) 90 := qi_inx (by omega) (by omega)
  have NI : Int32.toNatClampNeg (qi (6 * mb + i)) = 6 * mb + i := qi_N (by omega)
  obtain ⟨l1, l2, l3⟩ := hb.2.2.2.2.2.2.2 i hi
  obtain ⟨v1, v2⟩ := ok_l ok hi
  have el : mem 210 (Int32.toNatClampNeg (qi (6 * mb + i))) = m0 210 (6 * mb + i) := by rw [NI, hf _ _ (by omega)]
  refine bMo_isOpen_0 hX ii (fun w => kf (fun q => l3.mp q.1 (by rw [el] at w; exact w))) (fun _ => ii) (fun w => ?_)
  have hl : dls D i := l3.mpr (by rw [el] at w; exact w)
  rw [NI, hf _ _ (by omega), l1]
  refine cMo_nodeK hX h v1 (fun x hx lx ex => qcl_i (bMo_isOpen_22 hX (cMo_numN hX h hx (fun j h1 h2 _ => qcl_i ?_) (fun h1 => qcl_i ?_))))
  · rw [ex] at h2
    refine bMo_isOpen_25 hX (fun w => absurd w (qi_p (by have := h.2.2.2.1; have := h.2.2.1; omega))) (fun _ => ii) (fun _ => ?_)
    rw [NI, hf _ _ (by omega), l2]
    refine cMo_nodeK hX h v2 (fun y hy ly ey => qcl_i (bMo_isOpen_41 hX (cMo_numN hX h hy (fun j' h3 h4 _ => qcl_i ?_) (fun h3 => qcl_i ?_))))
    · rw [ey] at h4
      exact bMo_isOpen_44 hX (fun _ => kf (fun q => q.2 ⟨⟨_, h2⟩, ⟨_, h4⟩⟩)) (fun w => absurd ((qi_le (a := 0) (by omega) (by have := h.2.2.2.1; have := h.2.2.1; omega)).mpr (Nat.zero_le _)) w)
    · rw [ey] at h3
      exact bMo_isOpen_44 hX (fun w => absurd w (by decide)) (fun _ => bMo_isOpen_47 hX (kt ⟨hl, fun q => by obtain ⟨_, v, hv⟩ := q; exact h3 v hv⟩))
  · rw [ex] at h1
    exact bMo_isOpen_25 hX (fun _ => bMo_isOpen_47 hX (kt ⟨hl, fun q => by obtain ⟨⟨v, hv⟩, _⟩ := q; exact h1 v hv⟩)) (fun w => absurd (by decide) w) (fun w => absurd (by decide) w)
theorem cMo_sameLess {i j : Nat} (hX : X.length = 13) (h : prs mem m0 D E b1 b2 n1 n2 s1 s2 p) (hcf : cft D E p) (hi : i < dnc D) (hj : j < dnc E) (kt : opn E j → slz D E p i j → P (.inl (some (.int 1)), hpo X mem sw o e)) (kf : ¬ (opn E j ∧ slz D E p i j) → P (.inl (some (.int 0)), hpo X mem sw o e)) : QW (d + 3) mMo_sameLess 0 (qen 4 [.ref 193, .int (qi b1), .int (qi (6 * b1 + i)), .int (qi (6 * b2 + j))]) [] (hpo X mem sw o e) P := by
  have h' := h
  obtain ⟨hA, hB, nA, nB, hcat, hp⟩ := h'
  have ok := hA.1.1
  have okB := hB.1.1
  have q6 := ok.2.1
  have q6' := okB.2.1
  have hb1 := hA.1.2.1
  have hb2 := hB.1.2.1
  have i1 : inx (qi (6 * b1 + i)) 90 := qi_inx (by omega) (by omega)
  have i2 : inx (qi (6 * b2 + j)) 90 := qi_inx (by omega) (by omega)
  have N1 : Int32.toNatClampNeg (qi (6 * b1 + i)) = 6 * b1 + i := qi_N (by omega)
  have N2 : Int32.toNatClampNeg (qi (6 * b2 + j)) = 6 * b2 + j := qi_N (by omega)
  obtain ⟨l1, l2, -⟩ := hA.1.2.2.2.2.2.2.2 i hi
  obtain ⟨r1, r2, -⟩ := hB.1.2.2.2.2.2.2.2 j hj
  obtain ⟨v1, v2⟩ := ok_l ok hi
  obtain ⟨u1, u2⟩ := ok_l okB hj
  refine bMo_sameLess_0 hX (cMo_isOpen (d := d + 1) (z := 1) hX hB hj (fun ho => qcl_i ?_) (fun ho => qcl_i ?_))
  · refine bMo_sameLess_6 hX (fun w => absurd w (by decide)) (fun _ => i1) (fun _ => ?_)
    rw [N1, hA.2.1 _ _ (by omega), l1]
    refine cMo_nodeK (z := 0) hX hA v1 (fun x hx lx ex => qcl_i (bMo_sameLess_22 hX i2 ?_))
    rw [N2, hA.2.1 _ _ (by omega), r1]
    refine cMo_nodeK (z := 1) hX hB u1 (fun y hy ly ey => qcl_i (bMo_sameLess_33 hX (cMo_goWith hX h hcf hx hy (fun hg => qcl_i ?_) (fun hg => qcl_i ?_))))
    · rw [ex, ey] at hg
      refine bMo_sameLess_36 hX (fun w => absurd w (by decide)) (fun _ => i1) (fun _ => ?_)
      rw [N1, hA.2.1 _ _ (by omega), l2]
      refine cMo_nodeK (z := 0) hX hA v2 (fun x' hx' lx' ex' => qcl_i (bMo_sameLess_52 hX i2 ?_))
      rw [N2, hA.2.1 _ _ (by omega), r2]
      refine cMo_nodeK (z := 1) hX hB u2 (fun y' hy' ly' ey' => qcl_i (bMo_sameLess_63 hX (cMo_goWith hX h hcf hx' hy' (fun hg' => qcl_i ?_) (fun hg' => qcl_i ?_))))
      · rw [ex', ey'] at hg'
        exact bMo_sameLess_66 hX (fun w => absurd w (by decide)) (fun _ => kt ho ⟨hg, hg'⟩)
      · rw [ex', ey'] at hg'
        exact bMo_sameLess_66 hX (fun _ => kf (fun q => hg' q.2.2)) (fun w => absurd rfl w)
    · rw [ex, ey] at hg
      exact bMo_sameLess_36 hX (fun _ => kf (fun q => hg q.2.1)) (fun w => absurd rfl w) (fun w => absurd rfl w)
  · exact bMo_sameLess_6 hX (fun _ => kf (fun q => ho q.1)) (fun w => absurd rfl w) (fun w => absurd rfl w)
end MF6
