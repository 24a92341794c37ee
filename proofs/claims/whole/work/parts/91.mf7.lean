def dig (k s : Nat) : Nat := k / 4 ^ s % 4
theorem dig_all : ∀ k : Fin 256, ∀ s : Fin 4, ((qi k.1 >>> ((2 * qi s.1) &&& 31)) &&& 3) = qi (dig k.1 s.1) := by decide +kernel
theorem dig_q {k s : Nat} (hk : k < 256) (hs : s < 4) : ((qi k >>> ((2 * qi s) &&& 31)) &&& 3) = qi (dig k s) := dig_all ⟨k, hk⟩ ⟨s, hs⟩
theorem dig_4 (k s : Nat) : dig k s < 4 := Nat.mod_lt _ (by omega)
theorem dig_x (r : Nat → Nat) (h : ∀ s, s < 4 → r s < 4) : ∃ k, k < 256 ∧ ∀ s, s < 4 → dig k s = r s := by
  have h0 := h 0 (by omega)
  have h1 := h 1 (by omega)
  have h2 := h 2 (by omega)
  have h3 := h 3 (by omega)
  refine ⟨r 0 + 4 * r 1 + 16 * r 2 + 64 * r 3, by omega, fun s hs => ?_⟩
  unfold dig
  have : s = 0 ∨ s = 1 ∨ s = 2 ∨ s = 3 := by omega
  rcases this with rfl | rfl | rfl | rfl
  · rw [show 4 ^ 0 = 1 from rfl]; omega
  · rw [show 4 ^ 1 = 4 from rfl]; omega
  · rw [show 4 ^ 2 = 16 from rfl]; omega
  · rw [show 4 ^ 3 = 64 from rfl]; omega
theorem usd_all : ∀ u : Fin 16, ∀ q : Fin 4, (((qi u.1 >>> (qi q.1 &&& 31)) &&& 1) = 0 ↔ u.1 / 2 ^ q.1 % 2 = 0) ∧ ∃ u' : Fin 16, (qi u.1 ||| (1 <<< (qi q.1 &&& 31))) = qi u'.1 ∧ ∀ q' : Fin 4, (u'.1 / 2 ^ q'.1 % 2 = 0 ↔ (u.1 / 2 ^ q'.1 % 2 = 0 ∧ q'.1 ≠ q.1)) := by decide +kernel
theorem usd_q {u q : Nat} (hu : u < 16) (hq : q < 4) : (((qi u >>> (qi q &&& 31)) &&& 1) = 0 ↔ u / 2 ^ q % 2 = 0) ∧ ∃ u', u' < 16 ∧ (qi u ||| (1 <<< (qi q &&& 31))) = qi u' ∧ ∀ q', q' < 4 → (u' / 2 ^ q' % 2 = 0 ↔ (u / 2 ^ q' % 2 = 0 ∧ q' ≠ q)) := by
  obtain ⟨h1, ⟨u', hu'⟩, h2, h3⟩ := usd_all ⟨u, hu⟩ ⟨q, hq⟩
  exact ⟨h1, u', hu', h2, fun q' hq' => h3 ⟨q', hq'⟩⟩
/-- the choice k is a pairing, as far as source n -/
def okc (D E : qD) (k n : Nat) : Prop := ∀ s, s < n → (std D s → std E (dig k s) ∧ dtb D s = dtb E (dig k s) ∧ ∀ t, t < s → std D t → dig k t ≠ dig k s) ∧ (¬ std D s → dig k s = 0)
section MF7
variable {d : Nat} {P : qE → Prop} {X : qH} {sw : Bool} {o : Int64} {e : List Nat} {mem m0 : Nat → Nat → Int32} {D E : qD} {b1 b2 n1 n2 : Nat} {s1 s2 p : Nat → Nat} {z mb nn : Nat} {st : Nat → Nat}
theorem q6b (b : Nat) : (6 : Int32) * qi b = qi (6 * b) := by rw [show (6 : Int32) = qi 6 from rfl, qi_mul]
theorem cMo_fits (hX : X.length = 13) (h : prs mem m0 D E b1 b2 n1 n2 s1 s2 p) (hno : dno D = dno E) (kt : ftp D E p → P (.inl (some (.int 1)), hpo X mem sw o e)) (kf : ¬ ftp D E p → P (.inl (some (.int 0)), hpo X mem sw o e)) : QW (d + 4) mMo_fits 0 (qen 6 [.ref 193, .int (qi b1), .int (qi b2)]) [] (hpo X mem sw o e) P := by
  refine bMo_fits_0 hX (cMo_classesGo (d := d + 2) hX h (fun hcf => qcl_i ?_) (fun hcf => qcl_i (bMo_fits_5 hX (fun w => absurd rfl w) (fun _ => kf (fun q => hcf q.1)))))
  refine bMo_fits_5 hX (fun _ => ?_) (fun w => absurd w (by decide))
  have h' := h
  obtain ⟨hA, hB, nA, nB, hcat, hp⟩ := h'
  have ok := hA.1.1
  have okB := hB.1.1
  have q6 := ok.2.1
  have q6' := okB.2.1
  have o3 := ok.2.2.1
  have hb1 := hA.1.2.1
  have hb2 := hB.1.2.1
  have i1 : inx (qi b1) 15 := qi_inx hb1 (by omega)
  have i2 : inx (qi b2) 15 := qi_inx hb2 (by omega)
  have e2 : mem 202 (Int32.toNatClampNeg (qi b1)) = qi (dno D) := by rw [qi_N (by omega), hA.2.1 _ _ (by omega)]; exact hA.1.2.2.1
  have c1 : (6 * qi b1 : Int32) + mem 207 (Int32.toNatClampNeg (qi b1)) = qi (6 * b1 + dnc D) := by rw [qi_N (by omega), hA.2.1 _ _ (by omega), hA.1.2.2.2.2.1, q6b, qi_add]
  have c2 : (6 * qi b2 : Int32) + mem 207 (Int32.toNatClampNeg (qi b2)) = qi (6 * b2 + dnc E) := by rw [qi_N (by omega), hB.2.1 _ _ (by omega), hB.1.2.2.2.2.1, q6b, qi_add]
  -- the second form's conditions
  have lpE : oft D E p → (∀ i, i < dnc D → opn D i → ∃ j, j < dnc E ∧ opn E j ∧ slz D E p i j) → ∀ f j w4 w5, j + f = dnc E → qfr w4 → qfr w5 → (∀ j', j' < j → opn E j' → ∃ i, i < dnc D ∧ opn D i ∧ slz D E p i j') → QW (d + 4) mMo_fits 173 (lMo_fits_173 (qi b1) (qi b2) (qi (6 * b2 + j)) w4 w5) [] (hpo X mem sw o e) P := by
    intro ho hl f
    induction f with
    | zero =>
      intro j w4 w5 hj h4 h5 hinv
      have hle : (6 * qi b2 : Int32) + mem 207 (Int32.toNatClampNeg (qi b2)) ≤ qi (6 * b2 + j) := by rw [c2]; exact (qi_le (by omega) (by omega)).mpr (by omega)
      exact bMo_fits_173 hX h4 h5 i2 (fun _ => kt ⟨hcf, ho, hl, fun j' hj' => hinv j' (by omega)⟩) (fun w => absurd hle w)
    | succ f ih =>
      intro j w4 w5 hj h4 h5 hinv
      have hle : ¬ (6 * qi b2 : Int32) + mem 207 (Int32.toNatClampNeg (qi b2)) ≤ qi (6 * b2 + j) := by rw [c2]; exact fun w => absurd ((qi_le (by omega) (by omega)).mp w) (by omega)
      have lp2 : ∀ g i (a : Int32), i + g = dnc D → b01 a → (a = 1 ↔ ¬ opn E j ∨ ∃ i', i' < i ∧ opn D i' ∧ opn E j ∧ slz D E p i' j) → QW (d + 4) mMo_fits 210 (lMo_fits_210 (qi b1) (qi b2) (qi (6 * b2 + j)) a (qi (6 * b1 + i))) [] (hpo X mem sw o e) P := by
        intro g
        induction g with
        | zero =>
          intro i a hi ha hiff
          have hle : (6 * qi b1 : Int32) + mem 207 (Int32.toNatClampNeg (qi b1)) ≤ qi (6 * b1 + i) := by rw [c1]; exact (qi_le (by omega) (by omega)).mpr (by omega)
          refine bMo_fits_210 hX i1 (fun _ w => ?_) (fun _ w => kf (fun q => ?_)) (fun w => absurd hle w) (fun w => absurd hle w)
          · rw [qi_1, show 6 * b2 + j + 1 = 6 * b2 + (j + 1) by omega]
            refine ih (j + 1) _ _ (by omega) (Or.inr (Or.inl ⟨_, rfl⟩)) (Or.inr (Or.inl ⟨_, rfl⟩)) (fun j' hj' hop => ?_)
            by_cases ej : j' = j
            · subst ej
              have : a = 1 := by
                rcases ha with ha | ha
                · exact absurd ha w
                · exact ha
              rcases hiff.mp this with t | ⟨i', t1, t2, t3, t4⟩
              · exact absurd hop t
              · exact ⟨i', by omega, t2, t4⟩
            · exact hinv j' (by omega) hop
          · have : a = 1 := hiff.mpr (by
              by_cases hop : opn E j
              · obtain ⟨i', t1, t2, t3⟩ := q.2.2.2 j (by omega) hop
                exact Or.inr ⟨i', by omega, t2, hop, t3⟩
              · exact Or.inl hop)
            rw [w] at this
            exact absurd this (by decide)
        | succ g ih2 =>
          intro i a hi ha hiff
          have hle : ¬ (6 * qi b1 : Int32) + mem 207 (Int32.toNatClampNeg (qi b1)) ≤ qi (6 * b1 + i) := by rw [c1]; exact fun w => absurd ((qi_le (by omega) (by omega)).mp w) (by omega)
          have nxt : ∀ b : Int32, b01 b → (b = 1 ↔ ¬ opn E j ∨ ∃ i', i' < i + 1 ∧ opn D i' ∧ opn E j ∧ slz D E p i' j) → QW (d + 4) mMo_fits 257 (lMo_fits_257 (qi b1) (qi b2) (qi (6 * b2 + j)) a (qi (6 * b1 + i))) [.int b] (hpo X mem sw o e) P := by
            intro b hb hbi
            refine bMo_fits_257 hX ?_
            rw [qi_1, show 6 * b1 + i + 1 = 6 * b1 + (i + 1) by omega]
            exact ih2 (i + 1) b (by omega) hb hbi
          have yes : (¬ opn E j ∨ ∃ i', i' < i + 1 ∧ opn D i' ∧ opn E j ∧ slz D E p i' j) → QW (d + 4) mMo_fits 252 (lMo_fits_252 (qi b1) (qi b2) (qi (6 * b2 + j)) a (qi (6 * b1 + i))) [] (hpo X mem sw o e) P := fun w => bMo_fits_252 hX (nxt 1 (Or.inr rfl) ⟨fun _ => w, fun _ => rfl⟩)
          have no : a = 0 → ¬ (opn D i ∧ opn E j ∧ slz D E p i j) → QW (d + 4) mMo_fits 256 (lMo_fits_256 (qi b1) (qi b2) (qi (6 * b2 + j)) a (qi (6 * b1 + i))) [] (hpo X mem sw o e) P := by
            intro ha0 w
            refine bMo_fits_256 hX (nxt 0 (Or.inl rfl) ⟨fun r => absurd r (by decide), fun r => ?_⟩)
            exfalso
            have : a = 1 := hiff.mpr (by
              rcases r with r | ⟨i', r1, r2⟩
              · exact Or.inl r
              · by_cases ei : i' = i
                · rw [ei] at r2; exact absurd r2 w
                · exact Or.inr ⟨i', by omega, r2⟩)
            rw [ha0] at this
            exact absurd this (by decide)
          refine bMo_fits_210 hX i1 (fun w => absurd w hle) (fun w => absurd w hle) (fun _ w => yes ?_) (fun _ w => cMo_isOpen (d := d + 2) (z := 0) hX hA (by omega) (fun hop => qcl_i ?_) (fun hop => qcl_i ?_))
          · have : a = 1 := by
              rcases ha with ha | ha
              · exact absurd ha w
              · exact ha
            rcases hiff.mp this with t | ⟨i', t1, t2⟩
            · exact Or.inl t
            · exact Or.inr ⟨i', by omega, t2⟩
          · refine bMo_fits_238 hX (fun w => absurd w (by decide)) (fun _ => cMo_sameLess (d := d) hX h hcf (by omega) (by omega) (fun g1 g2 => qcl_i ?_) (fun g1 => qcl_i ?_))
            · exact bMo_fits_249 hX (fun w => absurd w (by decide)) (fun _ => yes (Or.inr ⟨i, by omega, hop, g1, g2⟩))
            · exact bMo_fits_249 hX (fun _ => no w (fun q => g1 q.2)) (fun w => absurd rfl w)
          · exact bMo_fits_238 hX (fun _ => no w (fun q => hop q.1)) (fun w => absurd rfl w)
      refine bMo_fits_173 hX h4 h5 i2 (fun w => absurd w hle) (fun _ => cMo_isOpen (d := d + 2) (z := 1) hX hB (by omega) (fun hop => qcl_i ?_) (fun hop => qcl_i ?_))
      · refine bMo_fits_194 hX h4 h5 (fun _ => bMo_fits_202 hX h4 h5 ?_) (fun w => absurd w (by decide))
        rw [q6b]
        exact lp2 (dnc D) 0 0 (by omega) (Or.inl rfl) ⟨fun q => absurd q (by decide), fun q => by
          rcases q with q | ⟨i', q, _⟩
          · exact absurd hop q
          · exact absurd q (by omega)⟩
      · refine bMo_fits_194 hX h4 h5 (fun w => absurd rfl w) (fun _ => bMo_fits_202 hX h4 h5 ?_)
        rw [q6b]
        exact lp2 (dnc D) 0 1 (by omega) (Or.inr rfl) ⟨fun _ => Or.inl hop, fun _ => rfl⟩
  -- the first form's conditions
  have lpD : oft D E p → ∀ f i w4 w5, i + f = dnc D → qfr w4 → qfr w5 → (∀ i', i' < i → opn D i' → ∃ j, j < dnc E ∧ opn E j ∧ slz D E p i' j) → QW (d + 4) mMo_fits 73 (lMo_fits_73 (qi b1) (qi b2) (qi (6 * b1 + i)) w4 w5) [] (hpo X mem sw o e) P := by
    intro ho f
    induction f with
    | zero =>
      intro i w4 w5 hi h4 h5 hinv
      have hle : (6 * qi b1 : Int32) + mem 207 (Int32.toNatClampNeg (qi b1)) ≤ qi (6 * b1 + i) := by rw [c1]; exact (qi_le (by omega) (by omega)).mpr (by omega)
      refine bMo_fits_73 hX h4 h5 i1 (fun _ => ?_) (fun w => absurd hle w)
      rw [q6b]
      exact lpE ho (fun i' hi' => hinv i' (by omega)) (dnc E) 0 w4 w5 (by omega) h4 h5 (fun j' hj' => absurd hj' (by omega))
    | succ f ih =>
      intro i w4 w5 hi h4 h5 hinv
      have hle : ¬ (6 * qi b1 : Int32) + mem 207 (Int32.toNatClampNeg (qi b1)) ≤ qi (6 * b1 + i) := by rw [c1]; exact fun w => absurd ((qi_le (by omega) (by omega)).mp w) (by omega)
      have lp2 : ∀ g j (a : Int32), j + g = dnc E → b01 a → (a = 1 ↔ ¬ opn D i ∨ ∃ j', j' < j ∧ opn E j' ∧ slz D E p i j') → QW (d + 4) mMo_fits 110 (lMo_fits_110 (qi b1) (qi b2) (qi (6 * b1 + i)) a (qi (6 * b2 + j))) [] (hpo X mem sw o e) P := by
        intro g
        induction g with
        | zero =>
          intro j a hj ha hiff
          have hle : (6 * qi b2 : Int32) + mem 207 (Int32.toNatClampNeg (qi b2)) ≤ qi (6 * b2 + j) := by rw [c2]; exact (qi_le (by omega) (by omega)).mpr (by omega)
          refine bMo_fits_110 hX i2 (fun _ w => ?_) (fun _ w => kf (fun q => ?_)) (fun w => absurd hle w) (fun w => absurd hle w)
          · rw [qi_1, show 6 * b1 + i + 1 = 6 * b1 + (i + 1) by omega]
            refine ih (i + 1) _ _ (by omega) (Or.inr (Or.inl ⟨_, rfl⟩)) (Or.inr (Or.inl ⟨_, rfl⟩)) (fun i' hi' hop => ?_)
            by_cases ei : i' = i
            · subst ei
              have : a = 1 := by
                rcases ha with ha | ha
                · exact absurd ha w
                · exact ha
              rcases hiff.mp this with t | ⟨j', t1, t2, t4⟩
              · exact absurd hop t
              · exact ⟨j', by omega, t2, t4⟩
            · exact hinv i' (by omega) hop
          · have : a = 1 := hiff.mpr (by
              by_cases hop : opn D i
              · obtain ⟨j', t1, t2, t3⟩ := q.2.2.1 i (by omega) hop
                exact Or.inr ⟨j', by omega, t2, t3⟩
              · exact Or.inl hop)
            rw [w] at this
            exact absurd this (by decide)
        | succ g ih2 =>
          intro j a hj ha hiff
          have hle : ¬ (6 * qi b2 : Int32) + mem 207 (Int32.toNatClampNeg (qi b2)) ≤ qi (6 * b2 + j) := by rw [c2]; exact fun w => absurd ((qi_le (by omega) (by omega)).mp w) (by omega)
          have nxt : ∀ b : Int32, b01 b → (b = 1 ↔ ¬ opn D i ∨ ∃ j', j' < j + 1 ∧ opn E j' ∧ slz D E p i j') → QW (d + 4) mMo_fits 147 (lMo_fits_147 (qi b1) (qi b2) (qi (6 * b1 + i)) a (qi (6 * b2 + j))) [.int b] (hpo X mem sw o e) P := by
            intro b hb hbi
            refine bMo_fits_147 hX ?_
            rw [qi_1, show 6 * b2 + j + 1 = 6 * b2 + (j + 1) by omega]
            exact ih2 (j + 1) b (by omega) hb hbi
          have yes : (¬ opn D i ∨ ∃ j', j' < j + 1 ∧ opn E j' ∧ slz D E p i j') → QW (d + 4) mMo_fits 142 (lMo_fits_142 (qi b1) (qi b2) (qi (6 * b1 + i)) a (qi (6 * b2 + j))) [] (hpo X mem sw o e) P := fun w => bMo_fits_142 hX (nxt 1 (Or.inr rfl) ⟨fun _ => w, fun _ => rfl⟩)
          refine bMo_fits_110 hX i2 (fun w => absurd w hle) (fun w => absurd w hle) (fun _ w => yes ?_) (fun _ w => cMo_sameLess (d := d) hX h hcf (by omega) (by omega) (fun g1 g2 => qcl_i ?_) (fun g1 => qcl_i ?_))
          · have : a = 1 := by
              rcases ha with ha | ha
              · exact absurd ha w
              · exact ha
            rcases hiff.mp this with t | ⟨j', t1, t2⟩
            · exact Or.inl t
            · exact Or.inr ⟨j', by omega, t2⟩
          · exact bMo_fits_139 hX (fun w => absurd w (by decide)) (fun _ => yes (Or.inr ⟨j, by omega, g1, g2⟩))
          · refine bMo_fits_139 hX (fun _ => nxt 0 (Or.inl rfl) ⟨fun r => absurd r (by decide), fun r => ?_⟩) (fun w => absurd rfl w)
            exfalso
            have : a = 1 := hiff.mpr (by
              rcases r with r | ⟨j', r1, r2⟩
              · exact Or.inl r
              · by_cases ej : j' = j
                · rw [ej] at r2; exact absurd r2 g1
                · exact Or.inr ⟨j', by omega, r2⟩)
            rw [w] at this
            exact absurd this (by decide)
      refine bMo_fits_73 hX h4 h5 i1 (fun w => absurd w hle) (fun _ => cMo_isOpen (d := d + 2) (z := 0) hX hA (by omega) (fun hop => qcl_i ?_) (fun hop => qcl_i ?_))
      · refine bMo_fits_94 hX h4 h5 (fun _ => bMo_fits_102 hX h4 h5 ?_) (fun w => absurd w (by decide))
        rw [q6b]
        exact lp2 (dnc E) 0 0 (by omega) (Or.inl rfl) ⟨fun q => absurd q (by decide), fun q => by
          rcases q with q | ⟨i', q, _⟩
          · exact absurd hop q
          · exact absurd q (by omega)⟩
      · refine bMo_fits_94 hX h4 h5 (fun w => absurd rfl w) (fun _ => bMo_fits_102 hX h4 h5 ?_)
        rw [q6b]
        exact lp2 (dnc E) 0 1 (by omega) (Or.inr rfl) ⟨fun _ => Or.inl hop, fun _ => rfl⟩
  -- the outputs
  have lpO : ∀ f k, k + f = dno D → (∀ k', k' < k → gw D E p (dou D k') (dou E k')) → QW (d + 4) mMo_fits 12 (lMo_fits_12 (qi b1) (qi b2) (qi k)) [] (hpo X mem sw o e) P := by
    intro f
    induction f with
    | zero =>
      intro k hk hinv
      have hle : mem 202 (Int32.toNatClampNeg (qi b1)) ≤ qi k := by rw [e2]; exact (qi_le (by omega) (by omega)).mpr (by omega)
      refine bMo_fits_12 hX i1 (fun _ => ?_) (fun w => absurd hle w) (fun w => absurd hle w)
      rw [q6b]
      exact lpD (fun k' hk' => hinv k' (by omega)) (dnc D) 0 .unset .unset (by omega) (Or.inl rfl) (Or.inl rfl) (fun i' hi' => absurd hi' (by omega))
    | succ f ih =>
      intro k hk hinv
      have hle : ¬ mem 202 (Int32.toNatClampNeg (qi b1)) ≤ qi k := by rw [e2]; exact fun w => absurd ((qi_le (by omega) (by omega)).mp w) (by omega)
      have e3 : ∀ b, (3 : Int32) * qi b + qi k = qi (3 * b + k) := fun b => by rw [show (3 : Int32) = qi 3 from rfl, qi_mul, qi_add]
      refine bMo_fits_12 hX i1 (fun w => absurd w hle) (fun _ => by rw [e3]; exact qi_inx (by omega) (by omega)) (fun _ => ?_)
      rw [e3, qi_N (by omega), hA.2.1 _ _ (by omega), hA.1.2.2.2.2.2.2.1 k (by omega)]
      refine cMo_nodeK (z := 0) hX hA (ok_o ok (by omega)) (fun x hx lx ex => qcl_i (bMo_fits_39 hX (by rw [e3]; exact qi_inx (by omega) (by omega)) ?_))
      rw [e3, qi_N (by omega), hB.2.1 _ _ (by omega), hB.1.2.2.2.2.2.2.1 k (by omega)]
      refine cMo_nodeK (z := 1) hX hB (ok_o okB (by omega)) (fun y hy ly ey => qcl_i (bMo_fits_54 hX (cMo_goWith (d := d + 1) hX h hcf hx hy (fun hg => qcl_i ?_) (fun hg => qcl_i ?_))))
      · rw [ex, ey] at hg
        refine bMo_fits_57 hX (fun _ => ?_) (fun w => absurd w (by decide))
        rw [qi_1]
        refine ih (k + 1) (by omega) (fun k' hk' => ?_)
        by_cases ek : k' = k
        · subst ek; exact hg
        · exact hinv k' (by omega)
      · rw [ex, ey] at hg
        exact bMo_fits_57 hX (fun w => absurd rfl w) (fun _ => kf (fun q => hg (q.2.1 k (by omega))))
  exact lpO (dno D) 0 (by omega) (fun k' hk' => absurd hk' (by omega))
theorem mrd_223 {m : Nat → Nat → Int32} (h : mrd mem m0 z mb nn st D) (hm : ∀ j q, j ≠ 223 → m j q = mem j q) : mrd m m0 z mb nn st D := by
  have e1 : num2 m z = num2 mem z := by
    funext i
    unfold num2
    rw [hm _ _ (by omega)]
  have e2 : grp m z = grp mem z := by
    funext i
    unfold grp
    rw [hm _ _ (by omega)]
  refine ⟨h.1, fun j q hj => ?_, h.2.2.1, h.2.2.2.1, ?_, ?_, fun s hs => ?_⟩
  · rw [hm _ _ (by omega)]; exact h.2.1 j q hj
  · rw [hm _ _ (by omega)]; exact h.2.2.2.2.1
  · rw [e1, e2]; exact h.2.2.2.2.2.1
  · rw [hm _ _ (by omega)]; exact h.2.2.2.2.2.2 s hs
theorem cMo_isPairing {k : Nat} (hX : X.length = 13) (hA : mrd mem m0 0 b1 n1 s1 D) (hB : mrd mem m0 1 b2 n2 s2 E) (hk : k < 256)
    (kt : ∀ m', okc D E k (dns D) → (∀ j q, j ≠ 223 → m' j q = mem j q) → (∀ s, std D s → m' 223 s = qi (dig k s)) → P (.inl (some (.int 1)), hpo X m' sw o e)) (kf : ∀ m', ¬ okc D E k (dns D) → (∀ j q, j ≠ 223 → m' j q = mem j q) → P (.inl (some (.int 0)), hpo X m' sw o e)) :
    QW d mMo_isPairing 0 (qen 8 [.ref 193, .int (qi k), .int (qi b1), .int (qi b2)]) [] (hpo X mem sw o e) P := by
  have ok := hA.1.1
  have okB := hB.1.1
  have a4 := ok.1.2
  have b4 := okB.1.2
  have hb1 := hA.1.2.1
  have hb2 := hB.1.2.1
  have i1 : inx (qi b1) 15 := qi_inx hb1 (by omega)
  have i2 : inx (qi b2) 15 := qi_inx hb2 (by omega)
  have lp : ∀ f s u m w7, s + f = dns D → u < 16 → qfr w7 → (∀ j q, j ≠ 223 → m j q = mem j q) → okc D E k s → (∀ t, t < s → std D t → m 223 t = qi (dig k t)) → (∀ q, q < 4 → (u / 2 ^ q % 2 = 0 ↔ ∀ t, t < s → std D t → dig k t ≠ q)) → QW d mMo_isPairing 9 (lMo_isPairing_9 (qi k) (qi b1) (qi b2) (qi u) 1 (qi s) w7) [] (hpo X m sw o e) P := by
    intro f
    induction f with
    | zero =>
      intro s u m w7 hs hu h7 hm hok hpr hus
      have e4 : m 204 (Int32.toNatClampNeg (qi b1)) = qi (dns D) := by rw [qi_N (by omega), hm _ _ (by omega), hA.2.1 _ _ (by omega)]; exact hA.1.2.2.2.1
      have hle : m 204 (Int32.toNatClampNeg (qi b1)) ≤ qi s := by rw [e4]; exact (qi_le (by omega) (by omega)).mpr (by omega)
      have es : s = dns D := by omega
      subst es
      refine bMo_isPairing_9 hX h7 i1 (fun _ => bMo_isPairing_159 hX h7 rfl (kt m hok hm (fun t ht => hpr t ht.1 ht))) (fun w => absurd hle w) (fun w => absurd hle w) (fun w => absurd hle w) (fun w => absurd hle w) (fun w => absurd hle w) (fun w => absurd hle w) (fun w => absurd hle w) (fun w => absurd hle w) (fun w => absurd hle w) (fun w => absurd hle w) (fun w => absurd hle w) (fun w => absurd hle w) (fun w => absurd hle w)
    | succ f ih =>
      intro s u m w7 hs hu h7 hm hok hpr hus
      have hs4 : s < 4 := by omega
      have e4 : m 204 (Int32.toNatClampNeg (qi b1)) = qi (dns D) := by rw [qi_N (by omega), hm _ _ (by omega), hA.2.1 _ _ (by omega)]; exact hA.1.2.2.2.1
      have e4' : m 204 (Int32.toNatClampNeg (qi b2)) = qi (dns E) := by rw [qi_N (by omega), hm _ _ (by omega), hB.2.1 _ _ (by omega)]; exact hB.1.2.2.2.1
      have hle : ¬ m 204 (Int32.toNatClampNeg (qi b1)) ≤ qi s := by rw [e4]; exact fun w => absurd ((qi_le (by omega) (by omega)).mp w) (by omega)
      have hd : ((qi k >>> ((2 * qi s) &&& 31)) &&& 3) = qi (dig k s) := dig_q hk hs4
      have d4 := dig_4 k s
      have ss := hA.2.2.2.2.2.2 s (by omega)
      rw [show 4 * 0 + s = s by omega] at ss
      have st1 : m 222 (Int32.toNatClampNeg (qi s)) = qi s ↔ std D s := by
        rw [qi_N (by omega), hm _ _ (by omega), ss.1]
        exact ⟨fun w => ss.2.1.mp (qi_inj (by omega) (by omega) w), fun w => by rw [ss.2.1.mpr w]⟩
      have q8 : (4 : Int32) + qi (dig k s) = qi (4 * 1 + dig k s) := by rw [show (4 : Int32) = qi 4 from rfl, qi_add]
      have st2 : dig k s < dns E → (m 222 (Int32.toNatClampNeg (4 + qi (dig k s))) = qi (dig k s) ↔ std E (dig k s)) := by
        intro hl
        have tt := hB.2.2.2.2.2.2 (dig k s) hl
        rw [q8, qi_N (by omega), hm _ _ (by omega), tt.1]
        exact ⟨fun w => tt.2.1.mp (qi_inj (by omega) (by omega) w), fun w => by rw [tt.2.1.mpr w]⟩
      have t205 : dig k s < dns E → (m 205 (Int32.toNatClampNeg (4 * qi b2 + qi (dig k s))) = m 205 (Int32.toNatClampNeg (4 * qi b1 + qi s)) ↔ dtb D s = dtb E (dig k s)) := by
        intro hl
        have x1 := (hA.1.2.2.2.2.2.1 s (by omega)).1
        have x2 := (hB.1.2.2.2.2.2.1 _ hl).1
        have y1 := (ok.2.2.2.1 s (by omega)).2
        have y2 := (okB.2.2.2.1 _ hl).2
        rw [qf4, qf4, qi_N (by omega), qi_N (by omega), hm _ _ (by omega), hm _ _ (by omega), hA.2.1 _ _ (by omega), hA.2.1 _ _ (by omega), x1, x2]
        exact ⟨fun w => (qi_inj (by omega) (by omega) w).symm, fun w => by rw [w]⟩
      have low : ∀ q, ¬ dns E ≤ q → q < dns E := fun q hq => by omega
      have cmp : ¬ m 204 (Int32.toNatClampNeg (qi b2)) ≤ qi (dig k s) → dig k s < dns E := by
        intro w
        refine low _ (fun q => w ?_)
        rw [e4']
        exact (qi_le (by omega) (by omega)).mpr q
      -- a slot that fails
      have stop : ∀ (m1 : Nat → Nat → Int32) (x y : Int32) (w : Slot), qfr w → (∀ j q, j ≠ 223 → m1 j q = mem j q) → ¬ okc D E k (s + 1) → s + 1 ≤ dns D → QW d mMo_isPairing 9 (lMo_isPairing_9 (qi k) (qi b1) (qi b2) x 0 y w) [] (hpo X m1 sw o e) P := by
        intro m1 x y w hw hm1 hno _
        have fin : QW d mMo_isPairing 159 (lMo_isPairing_159 (qi k) (qi b1) (qi b2) x 0 y w) [] (hpo X m1 sw o e) P := bMo_isPairing_159 hX hw rfl (kf m1 (fun q => hno (fun t ht => q t (by omega))) hm1)
        exact bMo_isPairing_9 hX hw i1 (fun _ => fin) (fun _ _ => fin) (fun _ w => absurd rfl w) (fun _ w => absurd rfl w) (fun _ w => absurd rfl w) (fun _ w => absurd rfl w) (fun _ w => absurd rfl w) (fun _ w => absurd rfl w) (fun _ w => absurd rfl w) (fun _ w => absurd rfl w) (fun _ w => absurd rfl w) (fun _ w => absurd rfl w) (fun _ w => absurd rfl w) (fun _ w => absurd rfl w)
      have i4 : inx (qi s) 4 := qi_inx (by omega) (by omega)
      have hmu : ∀ x, ∀ j q, j ≠ 223 → mup m 223 (Int32.toNatClampNeg (qi s)) x j q = mem j q := by
        intro x j q hj
        rw [mup_q, if_neg (by omega)]
        exact hm j q hj
      have bad : ¬ okc D E k (s + 1) → QW d mMo_isPairing 111 (lMo_isPairing_111 (qi k) (qi b1) (qi b2) (qi u) 1 (qi s) (qi (dig k s))) [] (hpo X m sw o e) P := by
        intro hno
        refine bMo_isPairing_111 hX (bMo_isPairing_112 hX i4 ?_)
        exact stop _ _ _ _ (Or.inr (Or.inl ⟨_, rfl⟩)) (hmu _) hno (by omega)
      obtain ⟨us1, u', hu', us2, us3⟩ := usd_q hu d4
      refine bMo_isPairing_9 hX h7 i1 (fun w => absurd w hle) (fun _ w => absurd w (by decide)) (fun _ _ => qi_inx (by omega) (by omega)) (fun _ _ w w2 => bMo_isPairing_151 hX h7 ?_) (fun _ _ w w2 => bMo_isPairing_151 hX h7 ?_) (fun _ _ _ => i2) (fun _ _ w w2 => ?_) (fun _ _ w w2 => ?_) (fun _ _ w w2 w3 => ?_) (fun _ _ w w2 w3 => ?_) (fun _ _ w w2 w3 => ?_) (fun _ _ w w2 w3 w4 => ?_) (fun _ _ w w2 w3 w4 w5 => ?_) (fun _ _ w w2 w3 w4 w5 => ?_)
      · refine stop _ _ _ _ h7 hm (fun q => w2 ?_) (by omega)
        rw [hd, (q s (by omega)).2 (fun r => w (st1.mpr r))]
        rfl
      · rw [qi_1]
        rw [hd] at w2
        have ns : ¬ std D s := fun r => w (st1.mpr r)
        refine ih (s + 1) u m w7 (by omega) hu h7 hm (fun t ht => ?_) (fun t ht ht2 => ?_) (fun q hq => ?_)
        · by_cases et : t = s
          · subst et
            exact ⟨fun r => absurd r ns, fun _ => qi_inj (b := 0) (by omega) (by omega) w2⟩
          · exact hok t (by omega)
        · by_cases et : t = s
          · subst et; exact absurd ht2 ns
          · exact hpr t (by omega) ht2
        · rw [hus q hq]
          constructor
          · intro r t ht ht2
            by_cases et : t = s
            · subst et; exact absurd ht2 ns
            · exact r t (by omega) ht2
          · intro r t ht ht2
            exact r t (by omega) ht2
      · rw [hd] at w2 ⊢
        rw [e4'] at w2
        have := (qi_le (by omega) (by omega)).mp w2
        refine bad (fun q => ?_)
        have := ((q s (by omega)).1 (st1.mp w)).1.1
        omega
      · rw [hd, q8]; exact qi_inx (by omega) (by omega)
      · rw [hd] at w2 w3 ⊢
        refine bad (fun q => w3 ((st2 (cmp w2)).mpr ((q s (by omega)).1 (st1.mp w)).1))
      · rw [hd, qf4]; exact qi_inx (by omega) (by omega)
      · rw [qf4]; exact qi_inx (by omega) (by omega)
      · rw [hd] at w2 w3 w4 ⊢
        refine bad (fun q => w4 ((t205 (cmp w2)).mpr ((q s (by omega)).1 (st1.mp w)).2.1))
      · rw [hd] at w2 w3 w4 w5 ⊢
        refine bad (fun q => w5 (us1.mpr ((hus _ d4).mpr (fun t ht ht2 => ((q s (by omega)).1 (st1.mp w)).2.2 t ht ht2))))
      · rw [hd] at w2 w3 w4 w5 ⊢
        have hlt := cmp w2
        have hse := (st2 hlt).mp w3
        have htb := (t205 hlt).mp w4
        have hnu := (hus _ d4).mp (us1.mp w5)
        refine bMo_isPairing_112 hX i4 ?_
        rw [us2, qi_1]
        refine ih (s + 1) u' _ _ (by omega) hu' (Or.inr (Or.inl ⟨_, rfl⟩)) (hmu _) (fun t ht => ?_) (fun t ht ht2 => ?_) (fun q hq => ?_)
        · by_cases et : t = s
          · subst et
            exact ⟨fun _ => ⟨hse, htb, hnu⟩, fun r => absurd (st1.mp w) r⟩
          · exact hok t (by omega)
        · rw [mup_q, qi_N (by omega)]
          by_cases et : t = s
          · subst et; rw [if_pos ⟨rfl, rfl⟩]
          · rw [if_neg (by omega)]; exact hpr t (by omega) ht2
        · rw [us3 q hq, hus q hq]
          constructor
          · rintro ⟨r1, r2⟩ t ht ht2
            by_cases et : t = s
            · subst et; exact fun q' => r2 q'.symm
            · exact r1 t (by omega) ht2
          · intro r
            exact ⟨fun t ht ht2 => r t (by omega) ht2, fun q' => r s (by omega) (st1.mp w) q'.symm⟩
  refine bMo_isPairing_0 hX ?_
  exact lp (dns D) 0 0 mem .unset (by omega) (by omega) (Or.inl rfl) (fun _ _ _ => rfl) (fun t ht => absurd ht (by omega)) (fun t ht => absurd ht (by omega)) (fun q hq => ⟨fun _ t ht => absurd ht (by omega), fun _ => by rw [Nat.zero_div]⟩)
end MF7
