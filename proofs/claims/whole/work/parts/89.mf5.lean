/-- the reference's two forms, and the partners -/
def prs (m m0 : Nat → Nat → Int32) (D E : qD) (b1 b2 n1 n2 : Nat) (s1 s2 p : Nat → Nat) : Prop := mrd m m0 0 b1 n1 s1 D ∧ mrd m m0 1 b2 n2 s2 E ∧ ¬ Emp D ∧ ¬ Emp E ∧ cat2 D E ∧ ∀ s, std D s → m 223 s = qi (p s) ∧ std E (p s) ∧ dtb D s = dtb E (p s)
section MF5
variable {d : Nat} {P : qE → Prop} {X : qH} {sw : Bool} {o : Int64} {e : List Nat} {mem m0 : Nat → Nat → Int32} {D E : qD} {b1 b2 n1 n2 : Nat} {s1 s2 p : Nat → Nat}
theorem gr0 (m : Nat → Nat → Int32) (a : Nat) : grp m 0 a = m 219 a := by unfold grp; rw [Nat.mul_zero, Nat.zero_add]
theorem gr1 (m : Nat → Nat → Int32) (a : Nat) : grp m 1 a = m 219 (32 + a) := by unfold grp; rw [Nat.mul_one]
theorem qd3 {k : Nat} (hk : k < 1000) : qi k / 3 = qi (k / 3) := qi_div (b := 3) (by omega) (by omega)
theorem qm3 {k : Nat} (hk : k < 1000) : qi k - qi k / 3 * 3 = qi (k - k / 3 * 3) := by
  rw [qd3 hk, show (3 : Int32) = qi 3 from rfl, qi_mul, qi_sub (by omega)]
/-- the reference's look at column k of the first form -/
def stc (D : qD) (k : Nat) : Prop := std D (k / 3) ∧ k - k / 3 * 3 < dcl D (k / 3)
theorem stc_sc (ok : okD D) {s c : Nat} (hs : std D s) (hc : c < dcl D s) : stc D (3 * s + c) ∧ (3 * s + c) / 3 = s ∧ 3 * s + c - (3 * s + c) / 3 * 3 = c ∧ 3 * s + c < 12 := by
  have := (ok.2.2.2.1 s hs.1).1
  have h4 := ok.1.2
  have h5 := hs.1
  have e1 : (3 * s + c) / 3 = s := by omega
  have e2 : 3 * s + c - (3 * s + c) / 3 * 3 = c := by omega
  refine ⟨?_, e1, e2, by omega⟩
  unfold stc
  rw [e2, e1]
  exact ⟨hs, hc⟩
theorem cMo_paired {a : Nat} (hX : X.length = 13) (h : prs mem m0 D E b1 b2 n1 n2 s1 s2 p) (ha : nd D n1 a)
    (kf : ∀ s c, std D s → c < dcl D s → eqv D (cc s c) (cdn (num2 mem 0) a) → P (.inl (some (.int (qi (32 + (3 * p s + c))))), hpo X mem sw o e))
    (kn : ∀ i j, (∀ s c, std D s → c < dcl D s → ¬ eqv D (cc s c) (cdn (num2 mem 0) a)) → i < n1 → num D (cdn (num2 mem 0) a) (num2 mem 0 i) → j < n2 → num2 mem 1 j = num2 mem 0 i → P (.inl (some (.int (qi (32 + (12 + j))))), hpo X mem sw o e))
    (k0 : (∀ s c, std D s → c < dcl D s → ¬ eqv D (cc s c) (cdn (num2 mem 0) a)) → (∀ i, num D (cdn (num2 mem 0) a) (num2 mem 0 i) → i < n1 → (∀ i', i < i' → i' < n1 → ¬ num D (cdn (num2 mem 0) a) (num2 mem 0 i')) → ∀ j, j < n2 → ¬ num2 mem 1 j = num2 mem 0 i) → P (.inl (some (.int (-1))), hpo X mem sw o e)) :
    QW (d + 1) mMo_paired 0 (qen 5 [.ref 193, .int (qi b1), .int (qi (32 * 0 + a))]) [] (hpo X mem sw o e) P := by
  obtain ⟨hA, hB, nA, nB, hcat, hp⟩ := h
  have hb := hA.1
  have hf := hA.2.1
  have ok := hb.1
  have okB := hB.1.1
  have hmb := hb.2.1
  have q4' := ok.1.2
  have fr := hA.2.2.2.2.2.1
  have sta := hA.2.2.2.2.2.2
  have la := nd_lt ok ha
  have n15 := hA.2.2.2.1
  have n15' := hB.2.2.2.1
  have hn2 := hB.2.2.2.2.1
  have imb : inx (qi b1) 15 := qi_inx hmb (by omega)
  have e4 : mem 204 (Int32.toNatClampNeg (qi b1)) = qi (dns D) := by rw [qi_N (by omega), hf _ _ (by omega)]; exact hb.2.2.2.1
  have e0 : 32 * 0 + a = a := by omega
  have lp : ∀ f k w4, k + f = 12 → qfr w4 → (∀ s c, std D s → c < dcl D s → 3 * s + c < k → ¬ eqv D (cc s c) (cdn (num2 mem 0) a)) → QW (d + 1) mMo_paired 2 (lMo_paired_2 (qi b1) (qi (32 * 0 + a)) (qi k) w4) [] (hpo X mem sw o e) P := by
    intro f
    induction f with
    | zero =>
      intro k w4 hk hw4 hno
      obtain rfl : k = 12 := by omega
      have hle : (12 : Int32) ≤ qi 12 := by decide
      have none' : ∀ s c, std D s → c < dcl D s → ¬ eqv D (cc s c) (cdn (num2 mem 0) a) := fun s c hs hc => hno s c hs hc (stc_sc ok hs hc).2.2.2
      refine bMo_paired_2 hX hw4 (fun _ => ?_) (fun w => absurd hle w) (fun w => absurd hle w) (fun w => absurd hle w) (fun w => absurd hle w) (fun w => absurd hle w) (fun w => absurd hle w) (fun w => absurd hle w) (fun w => absurd hle w) (fun w => absurd hle w) (fun w => absurd hle w) (fun w => absurd hle w)
      -- the numbers of the second form
      have lp2 : ∀ g j (x : Int32), j + g = n2 → ((∃ i, i < n1 ∧ x = qi (32 * 0 + 12 + i) ∧ num D (cdn (num2 mem 0) a) (num2 mem 0 i) ∧ (∀ i', i < i' → i' < n1 → ¬ num D (cdn (num2 mem 0) a) (num2 mem 0 i')) ∧ ∀ j', j' < j → ¬ num2 mem 1 j' = num2 mem 0 i) ∨ (x = -1 ∧ ∀ v, ¬ num D (cdn (num2 mem 0) a) v)) → QW (d + 1) mMo_paired 119 (lMo_paired_119 (qi b1) (qi (32 * 0 + a)) x (qi (44 + j))) [] (hpo X mem sw o e) P := by
        intro g
        induction g with
        | zero =>
          intro j x hj hx
          have e44 : (44 : Int32) + mem 221 (Int32.toNatClampNeg 1) = qi (44 + n2) := by rw [show Int32.toNatClampNeg 1 = 1 from rfl, hn2, show (44 : Int32) = qi 44 from rfl, qi_add]
          have hle : (44 : Int32) + mem 221 (Int32.toNatClampNeg 1) ≤ qi (44 + j) := by rw [e44]; exact (qi_le (by omega) (by omega)).mpr (by omega)
          refine bMo_paired_119 hX (fun _ => k0 none' (fun i hi1 hi2 hi3 j' hj' => ?_)) (fun w => absurd hle w) (fun w => absurd hle w) (fun w => absurd hle w) (fun w => absurd hle w) (fun w => absurd hle w)
          rcases hx with ⟨i0, t1, t2, t3, t4, t5⟩ | ⟨t1, t2⟩
          · have : i = i0 := by
              rcases Nat.lt_trichotomy i i0 with q | q | q
              · exact absurd t3 (hi3 i0 q t1)
              · exact q
              · exact absurd hi1 (t4 i q hi2)
            subst this
            exact t5 j' (by omega)
          · exact absurd hi1 (t2 _)
        | succ g ih2 =>
          intro j x hj hx
          have e44 : (44 : Int32) + mem 221 (Int32.toNatClampNeg 1) = qi (44 + n2) := by rw [show Int32.toNatClampNeg 1 = 1 from rfl, hn2, show (44 : Int32) = qi 44 from rfl, qi_add]
          have hle : ¬ (44 : Int32) + mem 221 (Int32.toNatClampNeg 1) ≤ qi (44 + j) := by rw [e44]; exact fun w => absurd ((qi_le (by omega) (by omega)).mp w) (by omega)
          have nj : mem 220 (Int32.toNatClampNeg (qi (44 + j))) = mem 220 (32 * 1 + 12 + j) := by rw [qi_N (by omega), show 44 + j = 32 * 1 + 12 + j by omega]
          refine bMo_paired_119 hX (fun w => absurd w hle) (fun _ w => ?_) (fun _ _ => qi_inx (by omega) (by omega)) (fun _ w => ?_) (fun _ w w2 => ?_) (fun _ w w2 => ?_)
          · rw [qi_1, show 44 + j + 1 = 44 + (j + 1) by omega]
            rcases hx with ⟨i0, t1, t2, t3, t4, t5⟩ | t
            · rw [t2] at w
              exact absurd w (qi_p (by omega))
            · exact ih2 (j + 1) x (by omega) (Or.inr t)
          · rcases hx with ⟨i0, t1, t2, t3, t4, t5⟩ | ⟨t1, t2⟩
            · rw [t2]; exact qi_inx (by omega) (by omega)
            · rw [t1] at w
              exact absurd (by decide) w
          · rcases hx with ⟨i0, t1, t2, t3, t4, t5⟩ | ⟨t1, t2⟩
            · rw [nj, t2, qi_N (by omega)] at w2
              rw [qi_1, show 44 + j + 1 = 44 + (j + 1) by omega]
              refine ih2 (j + 1) x (by omega) (Or.inl ⟨i0, t1, t2, t3, t4, fun j' hj' q => ?_⟩)
              by_cases ej : j' = j
              · subst ej
                unfold num2 at q
                exact w2 (i2k.mp q)
              · exact t5 j' (by omega) q
            · rw [t1] at w
              exact absurd (by decide) w
          · rcases hx with ⟨i0, t1, t2, t3, t4, t5⟩ | ⟨t1, t2⟩
            · rw [nj, t2, qi_N (by omega)] at w2
              rw [show 44 + j = 32 + (12 + j) by omega]
              refine kn i0 j none' t1 t3 (by omega) ?_
              unfold num2
              rw [w2]
            · rw [t1] at w
              exact absurd (by decide) w
      refine cMo_numN (z := 0) hX hA ha (fun i hi1 hi2 hi3 => qcl_i (bMo_paired_114 hX hw4 ?_)) (fun hno2 => qcl_i (bMo_paired_114 hX hw4 ?_))
      · exact lp2 n2 0 _ (by omega) (Or.inl ⟨i, hi1, rfl, hi2, hi3, fun j' hj' => absurd hj' (by omega)⟩)
      · exact lp2 n2 0 _ (by omega) (Or.inr ⟨rfl, hno2⟩)
    | succ f ih =>
      intro k w4 hk hw4 hno
      have hle : ¬ (12 : Int32) ≤ qi k := fun w => absurd ((qi_le (a := 12) (by omega) (by omega)).mp w) (by omega)
      have skip : (stc D k → ¬ eqv D (cc (k / 3) (k - k / 3 * 3)) (cdn (num2 mem 0) a)) → QW (d + 1) mMo_paired 76 (lMo_paired_76 (qi b1) (qi (32 * 0 + a)) (qi k) w4) [] (hpo X mem sw o e) P := by
        intro hn
        refine bMo_paired_76 hX hw4 (bMo_paired_77 hX hw4 (fun _ => ?_) (fun w => absurd rfl w) (fun w => absurd rfl w))
        rw [qi_1]
        refine ih (k + 1) _ (by omega) (Or.inr (Or.inl ⟨_, rfl⟩)) (fun s c hs hc hlt => ?_)
        by_cases ek : 3 * s + c = k
        · obtain ⟨t1, t2, t3, t4⟩ := stc_sc ok hs hc
          rw [ek] at t1 t2 t3
          have := hn t1
          rw [t3, t2] at this
          exact this
        · exact hno s c hs hc (by omega)
      have N3 : Int32.toNatClampNeg (qi (k / 3)) = k / 3 := qi_N (by omega)
      have i8 : inx (qi (k / 3)) 8 := qi_inx (by omega) (by omega)
      have e60 : (4 : Int32) * qi b1 + qi (k / 3) = qi (4 * b1 + k / 3) := qf4 _ _
      refine bMo_paired_2 hX hw4 (fun w => absurd w hle) (fun _ => imb) (fun _ w => skip (fun q => ?_)) (fun _ _ => by rw [qd3 (by omega)]; exact i8) (fun _ w1 w2 => skip (fun q => ?_)) (fun _ _ _ => by rw [qd3 (by omega), e60]; exact qi_inx (by omega) (by omega)) (fun _ w1 _ => ?_) (fun _ w1 w2 w3 => skip (fun q => ?_)) (fun _ _ _ _ => qi_inx (by omega) (by omega)) (fun _ _ _ _ => by rw [e0]; exact qi_inx (by omega) (by omega)) (fun _ w1 w2 w3 w4 => skip (fun q => ?_)) (fun _ w1 w2 w3 w4 => ?_)
      · rw [e4, qd3 (by omega)] at w
        have := (qi_le (by omega) (by omega)).mp w
        have := q.1.1
        omega
      · rw [qd3 (by omega), N3] at w2
        have := sta (k / 3) q.1.1
        rw [show 4 * 0 + k / 3 = k / 3 by omega] at this
        rw [this.1, this.2.1.mpr q.1] at w2
        exact absurd rfl w2
      · rw [e4, qd3 (by omega)] at w1
        have hlt : k / 3 < dns D := by
          have : ¬ dns D ≤ k / 3 := fun q => w1 ((qi_le (by omega) (by omega)).mpr q)
          omega
        have tt := hb.2.2.2.2.2.1 (k / 3) hlt
        have := (ok.2.2.2.1 (k / 3) hlt).2
        rw [qd3 (by omega), e60, qi_N (by omega), hf _ _ (by omega), tt.1]
        exact qi_inx (by omega) (by omega)
      · have tt := hb.2.2.2.2.2.1 (k / 3) q.1.1
        have rr := ok.2.2.2.1 (k / 3) q.1.1
        rw [qm3 (by omega), qd3 (by omega), e60, qi_N (by omega), hf 205 _ (by omega), tt.1, qi_N (by omega), hf 194 _ (by omega), tt.2.1] at w3
        have := (qi_le (by omega) (by omega)).mp w3
        have := q.2
        omega
      · rw [qi_N (by omega), e0, qi_N (by omega)] at w4
        have n1' := nd_col ok (nn := n1) (nu := num2 mem 0) q.1.1 q.2
        have ek : 3 * (k / 3) + (k - k / 3 * 3) = k := by omega
        rw [ek] at n1'
        have := fr.2.2 k a n1'.1 ha
        rw [gr0, gr0, n1'.2] at this
        exact fun r => w4 (this.mpr r)
      · rw [e4, qd3 (by omega)] at w1
        have hlt : k / 3 < dns D := by
          have : ¬ dns D ≤ k / 3 := fun q => w1 ((qi_le (by omega) (by omega)).mpr q)
          omega
        have tt := hb.2.2.2.2.2.1 (k / 3) hlt
        have rr := ok.2.2.2.1 (k / 3) hlt
        have ss := sta (k / 3) hlt
        rw [show 4 * 0 + k / 3 = k / 3 by omega] at ss
        rw [qd3 (by omega), N3, ss.1] at w2
        have hs : std D (k / 3) := ss.2.1.mp (qi_inj (by omega) (by omega) w2)
        rw [qm3 (by omega), qd3 (by omega), e60, qi_N (by omega), hf 205 _ (by omega), tt.1, qi_N (by omega), hf 194 _ (by omega), tt.2.1] at w3
        have hc : k - k / 3 * 3 < dcl D (k / 3) := by
          have : ¬ dcl D (k / 3) ≤ k - k / 3 * 3 := fun q => w3 ((qi_le (by omega) (by omega)).mpr q)
          omega
        rw [qi_N (by omega), e0, qi_N (by omega)] at w4
        have n1' := nd_col ok (nn := n1) (nu := num2 mem 0) hlt hc
        have ek : 3 * (k / 3) + (k - k / 3 * 3) = k := by omega
        rw [ek] at n1'
        have eq' := fr.2.2 k a n1'.1 ha
        rw [gr0, gr0, n1'.2] at eq'
        have pp := hp (k / 3) hs
        refine bMo_paired_77 hX hw4 (fun w => absurd w (by decide)) (fun _ => by rw [qd3 (by omega)]; exact qi_inx (by omega) (by omega)) (fun _ => ?_)
        have ps := pp.2.1.1
        have b4 := okB.1.2
        rw [qm3 (by omega), qd3 (by omega), N3, pp.1, show (32 : Int32) = qi 32 from rfl, show (3 : Int32) = qi 3 from rfl, qi_mul, qi_add, qi_add, Nat.add_assoc]
        exact kf (k / 3) (k - k / 3 * 3) hs hc (eq'.mp w4)
  exact bMo_paired_0 hX (lp 12 0 .unset (by omega) (Or.inl rfl) (fun s c _ _ hlt => absurd hlt (by omega)))
theorem cMo_goWith {a b : Nat} (hX : X.length = 13) (h : prs mem m0 D E b1 b2 n1 n2 s1 s2 p) (hcf : cft D E p) (ha : nd D n1 a) (hb : nd E n2 b)
    (kt : gw D E p (cdn (num2 mem 0) a) (cdn (num2 mem 1) b) → P (.inl (some (.int 1)), hpo X mem sw o e)) (kf : ¬ gw D E p (cdn (num2 mem 0) a) (cdn (num2 mem 1) b) → P (.inl (some (.int 0)), hpo X mem sw o e)) : QW (d + 2) mMo_goWith 0 (qen 5 [.ref 193, .int (qi b1), .int (qi (32 * 0 + a)), .int (qi (32 * 1 + b))]) [] (hpo X mem sw o e) P := by
  have h' := h
  obtain ⟨hA, hB, nA, nB, hcat, hp⟩ := h'
  have ok := hA.1.1
  have okB := hB.1.1
  have frA := hA.2.2.2.2.2.1
  have frB := hB.2.2.2.2.2.1
  have eA : ¬ Em1 D := fun z => nA (Or.inl z)
  have eB : ¬ Em1 E := fun z => nB (Or.inl z)
  have lb := nd_lt okB hb
  have n15' := hB.2.2.2.1
  have a4 := ok.1.2
  have b4 := okB.1.2
  -- compare node x of the second form with b
  have cmp : ∀ x, nd E n2 x → (gw D E p (cdn (num2 mem 0) a) (cdn (num2 mem 1) b) ↔ eqv E (cdn (num2 mem 1) x) (cdn (num2 mem 1) b)) → QW (d + 2) mMo_goWith 6 (lMo_goWith_6 (qi b1) (qi (32 * 0 + a)) (qi (32 * 1 + b))) [.int (qi (32 + x))] (hpo X mem sw o e) P := by
    intro x hx hiff
    have lx := nd_lt okB hx
    have e1 : mem 219 (Int32.toNatClampNeg (qi (32 + x))) = grp mem 1 x := by rw [qi_N (by omega), gr1]
    have e2 : mem 219 (Int32.toNatClampNeg (qi (32 * 1 + b))) = grp mem 1 b := by rw [qi_N (by omega)]; rfl
    have := frB.2.2 x b hx hb
    refine bMo_goWith_6 hX (fun w => absurd w (qi_p (by omega))) (fun _ => qi_inx (by omega) (by omega)) (fun _ => qi_inx (by omega) (by omega)) (fun _ w => kf (fun q => w ?_)) (fun _ w => kt (hiff.mpr ?_))
    · rw [e1, e2]; exact this.mpr (hiff.mp q)
    · rw [e1, e2] at w; exact this.mp w
  refine bMo_goWith_0 hX (cMo_paired hX h ha (fun s c hs hc he => qcl_i ?_) (fun i j hno hi hnum hj hij => qcl_i ?_) (fun hno hnn => qcl_i ?_))
  · have pp := hp s hs
    have hd := hcat s (p s) hs.1 pp.2.1.1 pp.2.2
    have nb := nd_col okB (nn := n2) (nu := num2 mem 1) pp.2.1.1 (show c < dcl E (p s) by omega)
    refine cmp _ nb.1 ?_
    rw [nb.2]
    obtain ⟨cf1, cf2⟩ := hcf s c hs hc
    constructor
    · rintro (⟨v, g1, g2⟩ | ⟨g1, g2, s', c', g3, g4, g5, g6⟩)
      · have : num E (cc (p s) c) v := (cf1 v).mp ⟨g1.1, eqv_t he g1.2⟩
        exact eqv_t this.2 (eqv_s g2.2)
      · have := (cf2 s' c' g3 g4).mp (eqv_t g5 (eqv_s he))
        exact eqv_t (eqv_s this) g6
    · intro q
      by_cases hv : ∃ v, num D (cdn (num2 mem 0) a) v
      · obtain ⟨v, hv⟩ := hv
        have h1 : num E (cc (p s) c) v := (cf1 v).mp ⟨hv.1, eqv_t he hv.2⟩
        exact Or.inl ⟨v, hv, h1.1, eqv_t (eqv_s q) h1.2⟩
      · refine Or.inr ⟨fun v z => hv ⟨v, z⟩, fun v z => hv ⟨v, ?_⟩, s, c, hs, hc, he, q⟩
        have h1 : num D (cc s c) v := (cf1 v).mpr ⟨z.1, eqv_t q z.2⟩
        exact ⟨h1.1, eqv_t (eqv_s he) h1.2⟩
  · have nb := nd_num (D := E) (nu := num2 mem 1) hj
    refine cmp _ nb.1 ?_
    rw [nb.2, hij]
    have hv := hnum
    have uE : uN E (num2 mem 0 i) := by rw [← hij]; exact (frB.2.1 _).mpr ⟨j, hj, rfl⟩
    constructor
    · rintro (⟨v, g1, g2⟩ | ⟨g1, -⟩)
      · rw [num_u eA g1 hv] at g2
        exact eqv_s g2.2
      · exact absurd hv (g1 _)
    · intro q
      exact Or.inl ⟨_, hv, uE, eqv_s q⟩
  · refine bMo_goWith_6 hX (fun _ => kf (fun q => ?_)) (fun w => absurd (by decide) w) (fun w => absurd (by decide) w) (fun w => absurd (by decide) w) (fun w => absurd (by decide) w)
    rcases q with ⟨v, g1, g2⟩ | ⟨g1, g2, s', c', g3, g4, g5, g6⟩
    · obtain ⟨i, hi, ei, -⟩ := (num_ix frA ha).mp g1
      obtain ⟨j, hj, ej⟩ := (frB.2.1 v).mp g2.1
      have u : ∀ i', i' < n1 → num D (cdn (num2 mem 0) a) (num2 mem 0 i') → i' = i := fun i' hi' q => frA.1.2 i' i hi' hi (by rw [num_u eA q g1, ei])
      exact hnn i (by rw [ei]; exact g1) hi (fun i' hlt hi' q => by have := u i' hi' q; omega) j hj (by rw [ej, ei])
    · exact hno s' c' g3 g4 g5
theorem num_cmp {z1 z2 a b : Nat} {x y : Int32} (eA : ¬ Em1 D) (eB : ¬ Em1 E) (hx : (∃ i, i < n1 ∧ x = qi (32 * z1 + 12 + i) ∧ num D (cdn (num2 mem z1) a) (num2 mem z1 i)) ∨ (x = -1 ∧ ∀ v, ¬ num D (cdn (num2 mem z1) a) v)) (hy : (∃ i, i < n2 ∧ y = qi (32 * z2 + 12 + i) ∧ num E (cdn (num2 mem z2) b) (num2 mem z2 i)) ∨ (y = -1 ∧ ∀ v, ¬ num E (cdn (num2 mem z2) b) v)) (hz : z1 < 2 ∧ z2 < 2 ∧ n1 ≤ 15 ∧ n2 ≤ 15) :
    (∀ v, num D (cdn (num2 mem z1) a) v ↔ num E (cdn (num2 mem z2) b) v) ↔ ((0 ≤ x ↔ 0 ≤ y) ∧ (0 ≤ x → mem 220 (Int32.toNatClampNeg x) = mem 220 (Int32.toNatClampNeg y))) := by
  rcases hx with ⟨i, i1, rfl, i3⟩ | ⟨rfl, i2⟩
  · have px : (0 : Int32) ≤ qi (32 * z1 + 12 + i) := (qi_le (a := 0) (by omega) (by omega)).mpr (Nat.zero_le _)
    rcases hy with ⟨j, j1, rfl, j3⟩ | ⟨rfl, j2⟩
    · have py : (0 : Int32) ≤ qi (32 * z2 + 12 + j) := (qi_le (a := 0) (by omega) (by omega)).mpr (Nat.zero_le _)
      rw [qi_N (by omega), qi_N (by omega)]
      constructor
      · intro q
        refine ⟨⟨fun _ => py, fun _ => px⟩, fun _ => ?_⟩
        have := num_u eB ((q _).mp i3) j3
        unfold num2 at this
        exact i2k.mp this
      · rintro ⟨-, q⟩ v
        have q := q px
        have e1 : num2 mem z1 i = num2 mem z2 j := by unfold num2; rw [q]
        constructor
        · intro w
          rw [num_u eA w i3, e1]; exact j3
        · intro w
          rw [num_u eB w j3, ← e1]; exact i3
    · constructor
      · intro q
        exact absurd ((q _).mp i3) (j2 _)
      · rintro ⟨q, -⟩
        exact absurd (q.mp px) (by decide)
  · rcases hy with ⟨j, j1, rfl, j3⟩ | ⟨rfl, j2⟩
    · have py : (0 : Int32) ≤ qi (32 * z2 + 12 + j) := (qi_le (a := 0) (by omega) (by omega)).mpr (Nat.zero_le _)
      constructor
      · intro q
        exact absurd ((q _).mpr j3) (i2 _)
      · rintro ⟨q, -⟩
        exact absurd (q.mpr py) (by decide)
    · constructor
      · intro _
        exact ⟨Iff.rfl, fun _ => rfl⟩
      · intro _ v
        exact ⟨fun w => absurd w (i2 v), fun w => absurd w (j2 v)⟩
end MF5
