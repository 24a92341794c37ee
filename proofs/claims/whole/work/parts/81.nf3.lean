def Em1 (D : qD) : Prop := ∃ v w, uN D v ∧ uN D w ∧ v ≠ w ∧ eqv D v w
def bad (D : qD) (i : Nat) : Prop := eqv D (dlf D i) (drg D i) ∨ ∃ v w, num D (dlf D i) v ∧ num D (drg D i) w ∧ w ≤ v
def opn (D : qD) (i : Nat) : Prop := dls D i ∧ ¬ ((∃ v, num D (dlf D i) v) ∧ ∃ w, num D (drg D i) w)
/-- the numbers of the classes -/
def cnp (D : qD) (nn : Nat) (nu g cn : Nat → Int32) : Prop := ∀ a, nd D nn a → (∀ v, num D (cdn nu a) v → 2000 + cn (Int32.toNatClampNeg (g a)) = v) ∧ ((∀ v, ¬ num D (cdn nu a) v) → cn (Int32.toNatClampNeg (g a)) = -1000)
/-- how many of the first n sources stand -/
noncomputable def ctS (D : qD) : Nat → Nat
  | 0 => 0
  | n + 1 => ctS D n + ind (std D n)
def lft (D : qD) (n lc : Nat) (l : Nat → Nat) : Prop := lc = ctS D n ∧ (∀ i, i < lc → std D (l i) ∧ l i < n) ∧ (∀ i j, i < j → j < lc → l i < l j) ∧ ∀ s, s < n → std D s → ∃ i, i < lc ∧ l i = s
def lef (D : qD) (m : Nat → Nat → Int32) (t nn n l : Nat) : Prop := (∀ j, j < l → ∃ i a b, i < n ∧ opn D i ∧ nd D nn a ∧ nd D nn b ∧ cdn (nuv m t) a = dlf D i ∧ cdn (nuv m t) b = drg D i ∧ m (t + 2) j = m (t + 8) a ∧ m (t + 3) j = m (t + 8) b) ∧
  ∀ i, i < n → opn D i → ∃ j a b, j < l ∧ nd D nn a ∧ nd D nn b ∧ cdn (nuv m t) a = dlf D i ∧ cdn (nuv m t) b = drg D i ∧ m (t + 2) j = m (t + 8) a ∧ m (t + 3) j = m (t + 8) b
/-- the form at t is D's -/
def nfo (D : qD) (m : Nat → Nat → Int32) (t nn lc : Nat) (l : Nat → Nat) (sf : Int32) : Prop := okD D ∧ nn ≤ 15 ∧ frm D nn (nuv m t) (m (t + 8)) ∧ (∀ a, a < 27 → ∃ b, b < 27 ∧ m (t + 8) a = qi b) ∧ b01 (m t 0) ∧ (m t 0 = 1 ↔ Emp D) ∧ m t 1 = sf ∧ m t 2 = qi (dno D) ∧
  (∀ i, i < dno D → ∃ a, nd D nn a ∧ cdn (nuv m t) a = dou D i ∧ m (t + 1) i = m (t + 8) a) ∧ (¬ Emp D → cnp D nn (nuv m t) (m (t + 8)) (m (t + 9)) ∧ ∃ q, m t 4 = qi q ∧ q ≤ 6 ∧ lef D m t nn (dnc D) q) ∧
  m t 7 = qi lc ∧ lft D (dns D) lc l ∧ ∀ i, i < lc → m (t + 4) i = qi (l i) ∧ m (t + 5) i = qi (dtb D (l i)) ∧ m (t + 6) i = qi (dcl D (l i))
section NF3
variable {d : Nat} {P : qE → Prop} {X : qH} {sw : Bool} {o : Int64} {e : List Nat} {mem m0 : Nat → Nat → Int32} {t B nn : Nat} {D : qD} {nu g : Nat → Int32}
theorem ctS_le (D : qD) : ∀ n, ctS D n ≤ n
  | 0 => Nat.le_refl _
  | n + 1 => by
    have := ctS_le D n
    have := ind_1 (std D n)
    show ctS D n + ind (std D n) ≤ n + 1
    omega
theorem num_ix (h : frm D nn nu g) {a : Nat} {v : Int32} (ha : nd D nn a) : num D (cdn nu a) v ↔ ∃ i, i < nn ∧ nu i = v ∧ g (12 + i) = g a := by
  constructor
  · rintro ⟨h1, h2⟩
    obtain ⟨i, hi, hv⟩ := (h.2.1 v).mp h1
    have n1 := nd_num (D := D) (nu := nu) hi
    refine ⟨i, hi, hv, ((h.2.2 _ _ n1.1 ha).mpr ?_)⟩
    rw [n1.2, hv]
    exact eqv_s h2
  · rintro ⟨i, hi, hv, hg⟩
    have n1 := nd_num (D := D) (nu := nu) hi
    refine ⟨(h.2.1 v).mpr ⟨i, hi, hv⟩, ?_⟩
    have := (h.2.2 _ _ ha n1.1).mp hg.symm
    rw [n1.2, hv] at this
    exact this
theorem Em1_ix (h : frm D nn nu g) : Em1 D ↔ ∃ i j, i < j ∧ j < nn ∧ g (12 + i) = g (12 + j) := by
  constructor
  · rintro ⟨v, w, hv, hw, hne, he⟩
    obtain ⟨i, hi, rfl⟩ := (h.2.1 v).mp hv
    obtain ⟨j, hj, rfl⟩ := (h.2.1 w).mp hw
    have n1 := nd_num (D := D) (nu := nu) hi
    have n2 := nd_num (D := D) (nu := nu) hj
    have hg : g (12 + i) = g (12 + j) := (h.2.2 _ _ n1.1 n2.1).mpr (by rw [n1.2, n2.2]; exact he)
    rcases Nat.lt_trichotomy i j with q | q | q
    · exact ⟨i, j, q, hj, hg⟩
    · exact absurd (by rw [q]) hne
    · exact ⟨j, i, q, hi, hg.symm⟩
  · rintro ⟨i, j, hij, hj, hg⟩
    have n1 := nd_num (D := D) (nu := nu) (show i < nn by omega)
    have n2 := nd_num (D := D) (nu := nu) hj
    have := (h.2.2 _ _ n1.1 n2.1).mp hg
    rw [n1.2, n2.2] at this
    exact ⟨nu i, nu j, (h.2.1 _).mpr ⟨i, by omega, rfl⟩, (h.2.1 _).mpr ⟨j, hj, rfl⟩, fun q => by have := h.1.2 i j (by omega) hj q; omega, this⟩
theorem num_u (h : ¬ Em1 D) {x v w : Int32} (h1 : num D x v) (h2 : num D x w) : v = w := Classical.byContradiction fun q => h ⟨v, w, h1.1, h2.1, q, eqv_t (eqv_s h1.2) h2.2⟩
theorem i2k_lt {x y : Int32} (h1 : isN (2000 + x)) (h2 : isN (2000 + y)) : x < y ↔ 2000 + x < 2000 + y := by
  unfold isN at h1 h2
  rw [Int32.lt_iff_toInt_lt, Int32.lt_iff_toInt_lt] at h1 h2 ⊢
  rw [Int32.toInt_add] at h1 h2 ⊢
  rw [Int32.toInt_add]
  have a1 := Int32.toInt_lt x
  have a2 := Int32.le_toInt x
  have b1 := Int32.toInt_lt y
  have b2 := Int32.le_toInt y
  have e0 : (2000 : Int32).toInt = 2000 := by decide
  have e1 : (1000 : Int32).toInt = 1000 := by decide
  have e3 : (3000 : Int32).toInt = 3000 := by decide
  rw [e0] at h1 h2 ⊢
  rw [e1, e3] at h1 h2
  simp only [Int.bmod_def] at h1 h2 ⊢
  omega
theorem isN_k {x : Int32} (h : isN (2000 + x)) : ¬ x = -1000 := by
  intro q
  rw [q] at h
  exact absurd h.1 (by decide)
theorem cNf_numberClasses (hX : X.length = 13) (ht : kNf t) (h : nst mem m0 t B nn D) (hf : frm D nn (nuv mem t) (mem (t + 8))) (hid : ∀ a, a < 27 → ∃ b, b < 27 ∧ mem (t + 8) a = qi b) (h0 : mem t 0 = 0)
    (k : ∀ m', (∀ j q, ¬ (j = t ∧ q = 0) → j ≠ t + 9 → m' j q = mem j q) → (Em1 D → m' t 0 = 1) → (¬ Em1 D → m' t 0 = 0 ∧ cnp D nn (nuv mem t) (mem (t + 8)) (m' (t + 9))) → P (.inl none, hpo X m' sw o e)) : QW d mNf_numberClasses 0 (qen 3 [.ref t]) [] (hpo X mem sw o e) P := by
  have ok := h.1.1
  have hn := h.2.2.2.2.1
  have h15 := h.2.2.2.2.2.1
  have lp2 : ∀ f i m w2, i + f = nn → qfr w2 → (∀ j q, ¬ (j = t ∧ q = 0) → j ≠ t + 9 → m j q = mem j q) → ((∃ i1 j1, i1 < j1 ∧ j1 < i ∧ mem (t + 8) (12 + i1) = mem (t + 8) (12 + j1)) → m t 0 = 1) → ((¬ ∃ i1 j1, i1 < j1 ∧ j1 < i ∧ mem (t + 8) (12 + i1) = mem (t + 8) (12 + j1)) → m t 0 = 0 ∧ (∀ b, b < 27 → (∀ i1, i1 < i → ¬ mem (t + 8) (12 + i1) = qi b) → m (t + 9) b = -1000) ∧ ∀ i1, i1 < i → m (t + 9) (Int32.toNatClampNeg (mem (t + 8) (12 + i1))) = mem (t + 7) i1) → QW d mNf_numberClasses 25 (lNf_numberClasses_25 (qi i) w2 t) [] (hpo X m sw o e) P := by
    intro f
    induction f with
    | zero =>
      intro i m w2 hi hw2 hfr h1 h2
      obtain rfl : i = nn := by omega
      have hle : m t 11 ≤ qi i := by rw [hfr _ _ (by omega) (by omega), hn]; exact Int32.le_refl _
      refine bNf_numberClasses_25 hX ht hw2 (fun _ => k m hfr (fun z => h1 ((Em1_ix hf).mp z)) (fun z => ?_)) (fun z => absurd hle z) (fun z => absurd hle z) (fun z => absurd hle z) (fun z => absurd hle z)
      have z' := fun q => z ((Em1_ix hf).mpr q)
      obtain ⟨a1, a2, a3⟩ := h2 z'
      refine ⟨a1, fun a ha => ⟨fun v hv => ?_, fun hno => ?_⟩⟩
      · obtain ⟨i1, hi1, hv1, hg⟩ := (num_ix hf ha).mp hv
        rw [← hg, a3 i1 hi1]
        exact hv1
      · have la := nd_lt ok ha
        obtain ⟨b, hb, eb⟩ := hid a (by omega)
        rw [eb, qi_N (by omega)]
        refine a2 b hb (fun i1 hi1 q => hno (nuv mem t i1) ((num_ix hf ha).mpr ⟨i1, hi1, rfl, by rw [q, eb]⟩))
    | succ f ih =>
      intro i m w2 hi hw2 hfr h1 h2
      have hle : ¬ m t 11 ≤ qi i := by rw [hfr _ _ (by omega) (by omega), hn]; exact fun z => absurd ((qi_le (by omega) (by omega)).mp z) (by omega)
      have e12 : (12 : Int32) + qi i = qi (12 + i) := by rw [show (12 : Int32) = qi 12 from rfl, qi_add]
      have hN : Int32.toNatClampNeg (qi (12 + i)) = 12 + i := qi_N (by omega)
      have e8 : m (t + 8) (12 + i) = mem (t + 8) (12 + i) := hfr _ _ (by omega) (by omega)
      obtain ⟨b, hb, eb⟩ := hid (12 + i) (by omega)
      have hNb : Int32.toNatClampNeg (qi b) = b := qi_N (by omega)
      have step : ∀ m2, (∀ j q, ¬ (j = t ∧ q = 0) → m2 j q = m j q) → ((∃ i1, i1 < i ∧ mem (t + 8) (12 + i1) = mem (t + 8) (12 + i)) → m2 t 0 = 1) → ((¬ ∃ i1, i1 < i ∧ mem (t + 8) (12 + i1) = mem (t + 8) (12 + i)) → m2 t 0 = m t 0) → (m t 0 = 1 → m2 t 0 = 1) → QW d mNf_numberClasses 60 (lNf_numberClasses_60 (qi i) (qi b) t) [] (hpo X m2 sw o e) P := by
        intro m2 hm2 g1 g2 g3
        refine bNf_numberClasses_60 hX ht (qi_inx (by omega) (by omega)) (qi_inx (by omega) (by omega)) ?_
        rw [hNb, qi_N (show i < 2147483648 by omega), hm2 _ _ (by omega), hfr _ _ (by omega) (by omega), qi_1]
        refine ih (i + 1) _ _ (by omega) (Or.inr (Or.inl ⟨_, rfl⟩)) (fun j q a1 a2 => by rw [mup_ce a2, hm2 j q a1]; exact hfr j q a1 a2) (fun q => ?_) (fun q => ?_)
        · rw [mup_ce (by omega)]
          obtain ⟨i1, j1, q1, q2, q3⟩ := q
          by_cases ej : j1 = i
          · subst ej
            exact g1 ⟨i1, q1, q3⟩
          · exact g3 (h1 ⟨i1, j1, q1, by omega, q3⟩)
        · obtain ⟨a1, a2, a3⟩ := h2 (fun ⟨i1, j1, q1, q2, q3⟩ => q ⟨i1, j1, q1, by omega, q3⟩)
          have hno : ¬ ∃ i1, i1 < i ∧ mem (t + 8) (12 + i1) = mem (t + 8) (12 + i) := fun ⟨i1, q1, q3⟩ => q ⟨i1, i, q1, by omega, q3⟩
          refine ⟨by rw [mup_ce (by omega), g2 hno]; exact a1, fun b' hb' hq => ?_, fun i1 hi1 => ?_⟩
          · have hne : b' ≠ b := by
              intro z
              subst z
              exact hq i (by omega) eb
            rw [mup_sl hne, hm2 _ _ (by omega)]
            exact a2 b' hb' (fun i1 hi1 => hq i1 (by omega))
          · by_cases e1 : i1 = i
            · subst e1
              rw [eb, hNb, mup_at]
            · obtain ⟨b1, hb1, eb1⟩ := hid (12 + i1) (by omega)
              have hne : b1 ≠ b := by
                intro z
                subst z
                exact hno ⟨i1, by omega, by rw [eb1, eb]⟩
              have := a3 i1 (by omega)
              rw [eb1, qi_N (by omega)] at this
              rw [eb1, qi_N (by omega), mup_sl hne, hm2 _ _ (by omega)]
              exact this
      refine bNf_numberClasses_25 hX ht hw2 (fun z => absurd z hle) (fun _ => by rw [e12]; exact qi_inx (by omega) (by omega)) (fun _ => by rw [e12, hN, e8, eb]; exact qi_inx (by omega) (by omega)) (fun _ z => ?_) (fun _ z => ?_)
      · rw [e12, hN, e8, eb, hNb] at z
        rw [e12, hN, e8, eb]
        refine step m (fun j q _ => rfl) (fun q => ?_) (fun _ => rfl) (fun q => q)
        obtain ⟨i1, q1, q2⟩ := q
        by_cases hE : ∃ i1 j1, i1 < j1 ∧ j1 < i ∧ mem (t + 8) (12 + i1) = mem (t + 8) (12 + j1)
        · exact h1 hE
        · obtain ⟨a1, a2, a3⟩ := h2 hE
          have := a3 i1 q1
          rw [q2, eb, hNb, z] at this
          exact absurd this.symm (isN_k (h.2.2.2.2.2.2.1.1 i1 (by omega)))
      · rw [e12, hN, e8, eb, hNb] at z
        rw [e12, hN, e8, eb]
        refine step (mup m t 0 1) (fun j q a1 => by rw [mup_q, if_neg a1]) (fun _ => by rw [mup_at]) (fun q => ?_) (fun _ => by rw [mup_at])
        rw [mup_at]
        by_cases hE : ∃ i1 j1, i1 < j1 ∧ j1 < i ∧ mem (t + 8) (12 + i1) = mem (t + 8) (12 + j1)
        · exact (h1 hE).symm
        · obtain ⟨a1, a2, a3⟩ := h2 hE
          exact absurd (a2 b hb (fun i1 hi1 w => q ⟨i1, hi1, by rw [w, eb]⟩)) z
  have lp1 : ∀ f i m, i + f = 27 → (∀ j q, j ≠ t + 9 → m j q = mem j q) → (∀ x, x < i → m (t + 9) x = -1000) → QW d mNf_numberClasses 2 (lNf_numberClasses_2 (qi i) t) [] (hpo X m sw o e) P := by
    intro f
    induction f with
    | zero =>
      intro i m hi hfr h1
      obtain rfl : i = 27 := by omega
      have hle : (27 : Int32) ≤ qi 27 := by decide
      refine bNf_numberClasses_2 hX ht (fun _ => ?_) (fun z => absurd hle z) (fun z => absurd hle z)
      exact lp2 nn 0 m _ (by omega) (Or.inl rfl) (fun j q a1 a2 => hfr j q a2) (fun ⟨i1, j1, q1, q2, _⟩ => absurd q2 (by omega)) (fun _ => ⟨by rw [hfr _ _ (by omega)]; exact h0, fun b hb _ => h1 b hb, fun i1 hi1 => absurd hi1 (by omega)⟩)
    | succ f ih =>
      intro i m hi hfr h1
      refine bNf_numberClasses_2 hX ht (fun z => absurd ((qi_le (a := 27) (by omega) (by omega)).mp z) (by omega)) (fun _ => qi_inx (by omega) (by omega)) (fun _ => ?_)
      rw [qi_N (by omega), qi_1]
      refine ih (i + 1) _ (by omega) (fun j q hj => by rw [mup_ce hj]; exact hfr j q hj) (fun x hx => ?_)
      by_cases e1 : x = i
      · rw [e1, mup_at]
      · rw [mup_sl e1]; exact h1 x (by omega)
  exact bNf_numberClasses_0 hX ht (lp1 27 0 mem (by omega) (fun _ _ _ => rfl) (fun x hx => absurd hx (by omega)))
theorem cNf_findLess (hX : X.length = 13) (ht : kNf t) (hB : kBl B) (h : nst mem m0 t B nn D) (hf : frm D nn (nuv mem t) (mem (t + 8))) (hid : ∀ a, a < 27 → ∃ b, b < 27 ∧ mem (t + 8) a = qi b) (h1 : Em1 D → mem t 0 = 1) (h2 : ¬ Em1 D → mem t 0 = 0 ∧ cnp D nn (nuv mem t) (mem (t + 8)) (mem (t + 9)))
    (k : ∀ m', (∀ j q, ¬ (j = t ∧ (q = 0 ∨ q = 4)) → j ≠ t + 2 → j ≠ t + 3 → m' j q = mem j q) → b01 (m' t 0) → (m' t 0 = 1 ↔ Emp D) → (¬ Emp D → ∃ q, m' t 4 = qi q ∧ q ≤ 6 ∧ lef D m' t nn (dnc D) q) → P (.inl none, hpo X m' sw o e)) : QW (d + 3) mNf_findLess 0 (qen 3 [.ref t, .ref B]) [] (hpo X mem sw o e) P := by
  have hb := h.1
  have ok := hb.1
  have hBt := h.2.1
  have h15 := h.2.2.2.2.2.1
  have q6 := ok.2.1
  have nns : ∀ m, (∀ j q, ¬ (j = t ∧ (q = 0 ∨ q = 4)) → j ≠ t + 2 → j ≠ t + 3 → m j q = mem j q) → nst m m0 t B nn D := fun m hfr => nst_to h (hfr _ _ (by omega) (by omega) (by omega)) (fun q => hfr _ _ (by omega) (by omega) (by omega)) (fun j q hj => hfr _ _ (by omega) (by omega) (by omega))
  have nus : ∀ m, (∀ j q, ¬ (j = t ∧ (q = 0 ∨ q = 4)) → j ≠ t + 2 → j ≠ t + 3 → m j q = mem j q) → nuv m t = nuv mem t := fun m hfr => by
    funext i
    unfold nuv
    rw [hfr _ _ (by omega) (by omega) (by omega)]
  have lp : ∀ f i m l, i + f = dnc D → (∀ j q, ¬ (j = t ∧ (q = 0 ∨ q = 4)) → j ≠ t + 2 → j ≠ t + 3 → m j q = mem j q) → m t 4 = qi l → l ≤ i → b01 (m t 0) → (Em1 D → m t 0 = 1) → (¬ Em1 D → (m t 0 = 1 ↔ ∃ i1, i1 < i ∧ dls D i1 ∧ bad D i1) ∧ (¬ (∃ i1, i1 < i ∧ dls D i1 ∧ bad D i1) → lef D m t nn i l)) → QW (d + 3) mNf_findLess 7 (lNf_findLess_7 (qi i) t B) [] (hpo X m sw o e) P := by
    intro f
    induction f with
    | zero =>
      intro i m l hi hfr h4 hl hb1 g1 g2
      obtain rfl : i = dnc D := by omega
      have hle : m B 3 ≤ qi (dnc D) := by rw [hfr _ _ (by omega) (by omega) (by omega), h.2.2.2.1 _ _ (by omega), hb.2.2.2.1]; exact Int32.le_refl _
      refine bNf_findLess_7 hX ht hB (fun _ => k m hfr hb1 ?_ (fun z => ⟨l, h4, by omega, ?_⟩)) (fun z => absurd hle z) (fun z => absurd hle z) (fun z => absurd hle z)
      · by_cases hE : Em1 D
        · exact ⟨fun _ => Or.inl hE, fun _ => g1 hE⟩
        · rw [(g2 hE).1]
          exact ⟨fun q => Or.inr q, fun q => by
            rcases q with q | q
            · exact absurd q hE
            · exact q⟩
      · have hE : ¬ Em1 D := fun q => z (Or.inl q)
        exact (g2 hE).2 (fun q => z (Or.inr q))
    | succ f ih =>
      intro i m l hi hfr h4 hl hb1 g1 g2
      have hn := nns m hfr
      have hfr0 := hn.2.2.2.1
      have hnu := nus m hfr
      have e8 : ∀ q, m (t + 8) q = mem (t + 8) q := fun q => hfr _ _ (by omega) (by omega) (by omega)
      have e9 : ∀ q, m (t + 9) q = mem (t + 9) q := fun q => hfr _ _ (by omega) (by omega) (by omega)
      have hle : ¬ m B 3 ≤ qi i := by rw [hfr0 _ _ (by omega), hb.2.2.2.1]; exact fun z => absurd ((qi_le (by omega) (by omega)).mp z) (by omega)
      have hN : Int32.toNatClampNeg (qi i) = i := qi_N (by omega)
      obtain ⟨s1, s2, s3⟩ := hb.2.2.2.2.2.2 i (by omega)
      obtain ⟨v1, v2⟩ := ok_l ok (show i < dnc D by omega)
      refine bNf_findLess_7 hX ht hB (fun z => absurd z hle) (fun _ => qi_inx (by omega) (by omega)) (fun _ z => ?_) (fun _ z => ?_)
      · rw [hN, hfr0 _ _ (by omega)] at z
        have hls : ¬ dls D i := fun q => s3.mp q z
        refine bNf_findLess_46 hX ht hB ?_
        rw [qi_1]
        have ex : (∃ i1, i1 < i + 1 ∧ dls D i1 ∧ bad D i1) ↔ ∃ i1, i1 < i ∧ dls D i1 ∧ bad D i1 := ⟨fun ⟨i1, a1, a2, a3⟩ => ⟨i1, by
          by_cases e1 : i1 = i
          · subst e1
            exact absurd a2 hls
          · omega, a2, a3⟩, fun ⟨i1, a1, a2⟩ => ⟨i1, by omega, a2⟩⟩
        refine ih (i + 1) m l (by omega) hfr h4 (by omega) hb1 g1 (fun hE => ⟨by rw [ex]; exact (g2 hE).1, fun q => ?_⟩)
        rw [ex] at q
        obtain ⟨l1, l2⟩ := (g2 hE).2 q
        refine ⟨fun j hj => ?_, fun i1 hi1 ho => ?_⟩
        · obtain ⟨i1, a, b, a1, a2⟩ := l1 j hj
          exact ⟨i1, a, b, by omega, a2⟩
        · by_cases e1 : i1 = i
          · subst e1
            exact absurd ho.1 hls
          · exact l2 i1 (by omega) ho
      · rw [hN, hfr0 _ _ (by omega)] at z
        have hls : dls D i := s3.mpr z
        refine cBl_lowSlot hX (qcl_i (bNf_findLess_31 hX ht hB (cNf_classOfSlot hX ht hB hn (by omega) s1 v1 (fun a ha ea => qcl_i (bNf_findLess_34 hX ht hB (cBl_highSlot hX (qcl_i (bNf_findLess_40 hX ht hB (cNf_classOfSlot hX ht hB hn (by omega) s2 v2 (fun b hb' eb => qcl_i (bNf_findLess_43 hX ht hB ?_)))))))))))
        rw [hnu] at ea eb
        have la := nd_lt ok ha
        have lb := nd_lt ok hb'
        obtain ⟨ia, hia, ga⟩ := hid a (by omega)
        obtain ⟨ib, hib, gb⟩ := hid b (by omega)
        have hab : m (t + 8) a = m (t + 8) b ↔ eqv D (dlf D i) (drg D i) := by rw [e8, e8, hf.2.2 a b ha hb', ea, eb]
        have xa : inx (m (t + 8) a) 27 := by rw [e8, ga]; exact qi_inx (by omega) (by omega)
        have xb : inx (m (t + 8) b) 27 := by rw [e8, gb]; exact qi_inx (by omega) (by omega)
        -- where nothing is wrong with the numbers, the classes' numbers are as they should be
        have ca : ¬ Em1 D → (∀ v, num D (dlf D i) v → 2000 + m (t + 9) (Int32.toNatClampNeg (m (t + 8) a)) = v) ∧ ((∀ v, ¬ num D (dlf D i) v) → m (t + 9) (Int32.toNatClampNeg (m (t + 8) a)) = -1000) := fun hE => by
          have := (h2 hE).2 a ha
          rw [ea] at this
          rw [e8, e9]
          exact this
        have cb : ¬ Em1 D → (∀ v, num D (drg D i) v → 2000 + m (t + 9) (Int32.toNatClampNeg (m (t + 8) b)) = v) ∧ ((∀ v, ¬ num D (drg D i) v) → m (t + 9) (Int32.toNatClampNeg (m (t + 8) b)) = -1000) := fun hE => by
          have := (h2 hE).2 b hb'
          rw [eb] at this
          rw [e8, e9]
          exact this
        have ka : ¬ Em1 D → (m (t + 9) (Int32.toNatClampNeg (m (t + 8) a)) = -1000 ↔ ∀ v, ¬ num D (dlf D i) v) := fun hE => ⟨fun q v hv => by
          have := (ca hE).1 v hv
          rw [q] at this
          exact isN_k (x := -1000) (this ▸ hv.1.1) rfl, (ca hE).2⟩
        have kb : ¬ Em1 D → (m (t + 9) (Int32.toNatClampNeg (m (t + 8) b)) = -1000 ↔ ∀ v, ¬ num D (drg D i) v) := fun hE => ⟨fun q v hv => by
          have := (cb hE).1 v hv
          rw [q] at this
          exact isN_k (x := -1000) (this ▸ hv.1.1) rfl, (cb hE).2⟩
        -- the condition is wrong
        have wrong : (¬ Em1 D → bad D i) → qcl (d + 2) mNf_findLess 43 46 (lNf_findLess_46 (qi i) t B) [] P (.inl none, hpo X (mup m t 0 1) sw o e) := by
          intro hbad
          refine qcl_v (bNf_findLess_46 hX ht hB ?_)
          rw [qi_1]
          refine ih (i + 1) _ l (by omega) (fun j q a1 a2 a3 => by rw [mup_q, if_neg (by omega)]; exact hfr j q a1 a2 a3) (by rw [mup_sl (by omega)]; exact h4) (by omega) (by rw [mup_at]; exact Or.inr rfl) (fun _ => by rw [mup_at]) (fun hE => ⟨⟨fun _ => ⟨i, by omega, hls, hbad hE⟩, fun _ => by rw [mup_at]⟩, fun q => absurd ⟨i, by omega, hls, hbad hE⟩ q⟩)
        -- the condition is one that stays
        have adds : (¬ Em1 D → ¬ bad D i ∧ opn D i) → QW (d + 2) mNf_addLess 37 (lNf_addLess_37 (m (t + 8) a) (m (t + 8) b) t) [] (hpo X m sw o e) (qcl (d + 2) mNf_findLess 43 46 (lNf_findLess_46 (qi i) t B) [] P) := by
          intro hop
          have e1 : ∀ x y, (mup m (t + 2) x y) t 4 = qi l := fun x y => by rw [mup_ce (by omega), h4]
          have e2 : ∀ x y x' y', (mup (mup m (t + 2) x y) (t + 3) x' y') t 4 = qi l := fun x y x' y' => by rw [mup_ce (by omega), e1]
          have hN4 : Int32.toNatClampNeg (qi l) = l := qi_N (by omega)
          refine bNf_addLess_37 hX ht (by rw [h4]; exact qi_inx (by omega) (by omega)) (by rw [e1]; exact qi_inx (by omega) (by omega)) (qcl_v (bNf_findLess_46 hX ht hB ?_))
          rw [e2, e1, h4, hN4, qi_1, qi_1]
          have old : ∀ j q, ¬ (j = t + 2 ∧ q = l) → ¬ (j = t + 3 ∧ q = l) → ¬ (j = t ∧ q = 4) → (mup (mup (mup m (t + 2) l (m (t + 8) a)) (t + 3) l (m (t + 8) b)) t 4 (qi (l + 1))) j q = m j q := fun j q a1 a2 a3 => by rw [mup_q, if_neg a3, mup_q, if_neg a2, mup_q, if_neg a1]
          have hnu2 : nuv (mup (mup (mup m (t + 2) l (m (t + 8) a)) (t + 3) l (m (t + 8) b)) t 4 (qi (l + 1))) t = nuv mem t := by
            rw [← hnu]
            funext x
            unfold nuv
            rw [old _ _ (by omega) (by omega) (by omega)]
          have n8 : ∀ x, (mup (mup (mup m (t + 2) l (m (t + 8) a)) (t + 3) l (m (t + 8) b)) t 4 (qi (l + 1))) (t + 8) x = m (t + 8) x := fun x => old _ _ (by omega) (by omega) (by omega)
          have n2 : (mup (mup (mup m (t + 2) l (m (t + 8) a)) (t + 3) l (m (t + 8) b)) t 4 (qi (l + 1))) (t + 2) l = m (t + 8) a := by rw [mup_ce (by omega), mup_ce (by omega), mup_at]
          have n3 : (mup (mup (mup m (t + 2) l (m (t + 8) a)) (t + 3) l (m (t + 8) b)) t 4 (qi (l + 1))) (t + 3) l = m (t + 8) b := by rw [mup_ce (by omega), mup_at]
          refine ih (i + 1) _ (l + 1) (by omega) (fun j q a1 a2 a3 => by rw [old j q (by omega) (by omega) (by omega)]; exact hfr j q a1 a2 a3) (by rw [mup_at]) (by omega) (by rw [old _ _ (by omega) (by omega) (by omega)]; exact hb1) (fun hE => by rw [old _ _ (by omega) (by omega) (by omega)]; exact g1 hE) (fun hE => ?_)
          have ex : (∃ i1, i1 < i + 1 ∧ dls D i1 ∧ bad D i1) ↔ ∃ i1, i1 < i ∧ dls D i1 ∧ bad D i1 := ⟨fun ⟨i1, a1, a2, a3⟩ => ⟨i1, by
            by_cases e1 : i1 = i
            · subst e1
              exact absurd a3 (hop hE).1
            · omega, a2, a3⟩, fun ⟨i1, a1, a2⟩ => ⟨i1, by omega, a2⟩⟩
          rw [ex, old _ _ (by omega) (by omega) (by omega)]
          refine ⟨(g2 hE).1, fun q => ?_⟩
          obtain ⟨l1, l2⟩ := (g2 hE).2 q
          refine ⟨fun j hj => ?_, fun i1 hi1 ho => ?_⟩
          · by_cases ej : j = l
            · subst ej
              exact ⟨i, a, b, by omega, (hop hE).2, ha, hb', by rw [hnu2]; exact ea, by rw [hnu2]; exact eb, by rw [n2, n8], by rw [n3, n8]⟩
            · obtain ⟨i1, a', b', a1, a2, a3, a4, a5, a6, a7, a8⟩ := l1 j (by omega)
              rw [hnu] at a5 a6
              exact ⟨i1, a', b', by omega, a2, a3, a4, by rw [hnu2]; exact a5, by rw [hnu2]; exact a6, by rw [old _ _ (by omega) (by omega) (by omega), n8]; exact a7, by rw [old _ _ (by omega) (by omega) (by omega), n8]; exact a8⟩
          · by_cases e1 : i1 = i
            · subst e1
              exact ⟨l, a, b, by omega, ha, hb', by rw [hnu2]; exact ea, by rw [hnu2]; exact eb, by rw [n2, n8], by rw [n3, n8]⟩
            · obtain ⟨j, a', b', a1, a3, a4, a5, a6, a7, a8⟩ := l2 i1 (by omega) ho
              rw [hnu] at a5 a6
              exact ⟨j, a', b', by omega, a3, a4, by rw [hnu2]; exact a5, by rw [hnu2]; exact a6, by rw [old _ _ (by omega) (by omega) (by omega), n8]; exact a7, by rw [old _ _ (by omega) (by omega) (by omega), n8]; exact a8⟩
        have cmp : ∀ x y v w : Int32, 2000 + x = v → 2000 + y = w → isN v → isN w → (x < y ↔ v < w) := by
          intro x y v w h1 h2 h3 h4
          rw [← h1] at h3 ⊢
          rw [← h2] at h4 ⊢
          exact i2k_lt h3 h4
        refine bNf_addLess_0 hX ht (fun _ => xa) (fun y1 y2 => adds (fun hE => ?_)) (fun _ _ => xb) (fun _ _ _ => xa) (fun _ _ _ => xb) (fun y1 y2 y3 y4 => ?_) (fun y1 y2 y3 y4 => wrong (fun hE => ?_)) (fun y1 y2 y3 => adds (fun hE => ?_)) (fun y1 => wrong (fun hE => Or.inl (hab.mp y1)))
        · have y2 := (ka hE).mp y2
          refine ⟨fun q => ?_, hls, fun q => ?_⟩
          · rcases q with q | ⟨v, w, q1, q2, q3⟩
            · exact y1 (hab.mpr q)
            · exact y2 v q1
          · obtain ⟨v, hv⟩ := q.1
            exact y2 v hv
        · -- numbers in their order: nothing is written
          refine qcl_v (bNf_findLess_46 hX ht hB ?_)
          rw [qi_1]
          refine ih (i + 1) m l (by omega) hfr h4 (by omega) hb1 g1 (fun hE => ?_)
          have y2 : ∃ v, num D (dlf D i) v := Classical.byContradiction fun q => y2 ((ka hE).mpr (fun v hv => q ⟨v, hv⟩))
          have y3 : ∃ v, num D (drg D i) v := Classical.byContradiction fun q => y3 ((kb hE).mpr (fun v hv => q ⟨v, hv⟩))
          obtain ⟨v, hv⟩ := y2
          obtain ⟨w, hw⟩ := y3
          have nb : ¬ bad D i := by
            rintro (q | ⟨v', w', q1, q2, q3⟩)
            · exact y1 (hab.mpr q)
            · rw [num_u hE q1 hv, num_u hE q2 hw] at q3
              exact Int32.not_le.mpr ((cmp _ _ v w ((ca hE).1 v hv) ((cb hE).1 w hw) hv.1.1 hw.1.1).mp y4) q3
          have ex : (∃ i1, i1 < i + 1 ∧ dls D i1 ∧ bad D i1) ↔ ∃ i1, i1 < i ∧ dls D i1 ∧ bad D i1 := ⟨fun ⟨i1, a1, a2, a3⟩ => ⟨i1, by
            by_cases e1 : i1 = i
            · subst e1
              exact absurd a3 nb
            · omega, a2, a3⟩, fun ⟨i1, a1, a2⟩ => ⟨i1, by omega, a2⟩⟩
          rw [ex]
          refine ⟨(g2 hE).1, fun q => ?_⟩
          obtain ⟨l1, l2⟩ := (g2 hE).2 q
          refine ⟨fun j hj => ?_, fun i1 hi1 ho => ?_⟩
          · obtain ⟨i1, a, b, a1, a2⟩ := l1 j hj
            exact ⟨i1, a, b, by omega, a2⟩
          · by_cases e1 : i1 = i
            · subst e1
              exact absurd ⟨⟨v, hv⟩, ⟨w, hw⟩⟩ ho.2
            · exact l2 i1 (by omega) ho
        · have y2 : ∃ v, num D (dlf D i) v := Classical.byContradiction fun q => y2 ((ka hE).mpr (fun v hv => q ⟨v, hv⟩))
          have y3 : ∃ v, num D (drg D i) v := Classical.byContradiction fun q => y3 ((kb hE).mpr (fun v hv => q ⟨v, hv⟩))
          obtain ⟨v, hv⟩ := y2
          obtain ⟨w, hw⟩ := y3
          exact Or.inr ⟨v, w, hv, hw, Int32.not_lt.mp (fun q => y4 ((cmp _ _ v w ((ca hE).1 v hv) ((cb hE).1 w hw) hv.1.1 hw.1.1).mpr q))⟩
        · have y3 := (kb hE).mp y3
          refine ⟨fun q => ?_, hls, fun q => ?_⟩
          · rcases q with q | ⟨v, w, q1, q2, q3⟩
            · exact y1 (hab.mpr q)
            · exact y3 w q2
          · obtain ⟨v, hv⟩ := q.2
            exact y3 v hv
  refine bNf_findLess_0 hX ht hB (lp (dnc D) 0 _ 0 (by omega) (fun j q a1 a2 a3 => by rw [mup_q, if_neg (by omega)]) (by rw [mup_at]; rfl) (Nat.le_refl _) ?_ (fun hE => by rw [mup_sl (by omega)]; exact h1 hE) (fun hE => ⟨?_, fun _ => ⟨fun j hj => absurd hj (by omega), fun i1 hi1 => absurd hi1 (by omega)⟩⟩))
  · rw [mup_sl (by omega)]
    by_cases hE : Em1 D
    · exact Or.inr (h1 hE)
    · exact Or.inl (h2 hE).1
  · rw [mup_sl (by omega), (h2 hE).1]
    exact ⟨fun q => absurd q (by decide), fun ⟨i1, q, _⟩ => absurd q (by omega)⟩
end NF3
