section NF2
variable {d : Nat} {P : qE → Prop} {X : qH} {sw : Bool} {o : Int64} {e : List Nat} {mem m0 : Nat → Nat → Int32} {t B nn : Nat} {D : qD} {nu g g' : Nat → Int32}
/-- the classes of the nodes, as they stand on the way -/
def cst (D : qD) (nn : Nat) (nu g : Nat → Int32) : Prop := snd D nn nu g ∧ (∀ a, a < 27 → ∃ b, b < 27 ∧ g a = qi b) ∧ ∀ a s c, nd D nn a → s < dns D → dcl D s ≤ c → c < 3 → g a ≠ g (3 * s + c)
theorem cst_congr (ok : okD D) (hn : nn ≤ 15) (h : cst D nn nu g) (hg : ∀ x, x < 27 → g' x = g x) : cst D nn nu g' := by
  have q := ok.1.2
  refine ⟨fun a b ha hb hab => ?_, fun a ha => ?_, fun a s c ha hs hc hc3 => ?_⟩
  · have := nd_lt ok ha
    have := nd_lt ok hb
    rw [hg a (by omega), hg b (by omega)] at hab
    exact h.1 a b ha hb hab
  · rw [hg a ha]; exact h.2.1 a ha
  · have := nd_lt ok ha
    rw [hg a (by omega), hg _ (by omega)]
    exact h.2.2 a s c ha hs hc hc3
theorem cst_mrg (ok : okD D) (hn : nn ≤ 15) {x y : Nat} (h : cst D nn nu g) (hx : nd D nn x) (hy : nd D nn y) (he : eqv D (cdn nu x) (cdn nu y)) : cst D nn nu (mrg g (g x) (g y)) := by
  have lx := nd_lt ok hx
  refine ⟨snd_mrg h.1 hx hy he, fun a ha => ?_, fun a s c ha hs hc hc3 => ?_⟩
  · unfold mrg
    by_cases h1 : g a = g y
    · rw [if_pos h1]; exact h.2.1 x (by omega)
    · rw [if_neg h1]; exact h.2.1 a ha
  · have h1 : ¬ g (3 * s + c) = g y := fun q => h.2.2 y s c hy hs hc hc3 q.symm
    unfold mrg
    rw [if_neg h1]
    by_cases h2 : g a = g y
    · rw [if_pos h2]; exact h.2.2 x s c hx hs hc hc3
    · rw [if_neg h2]; exact h.2.2 a s c ha hs hc hc3
theorem cst_mrn (ok : okD D) {s t c : Nat} (h : cst D nn nu g) (hs : s < dns D) (ht : t < dns D) (hc : dcl D s ≤ c) (hc' : dcl D t ≤ c) (hc3 : c < 3) : cst D nn nu (mrg g (g (3 * s + c)) (g (3 * t + c))) := by
  have q := ok.1.2
  refine ⟨fun a b ha hb hab => ?_, fun a ha => ?_, fun a s' c' ha hs' hc2 hc4 => ?_⟩
  · unfold mrg at hab
    rw [if_neg (h.2.2 a t c ha ht hc' hc3), if_neg (h.2.2 b t c hb ht hc' hc3)] at hab
    exact h.1 a b ha hb hab
  · unfold mrg
    by_cases h1 : g a = g (3 * t + c)
    · rw [if_pos h1]; exact h.2.1 _ (by omega)
    · rw [if_neg h1]; exact h.2.1 a ha
  · unfold mrg
    rw [if_neg (h.2.2 a t c ha ht hc' hc3)]
    by_cases h1 : g (3 * s' + c') = g (3 * t + c)
    · rw [if_pos h1]; exact h.2.2 a s c ha hs hc hc3
    · rw [if_neg h1]; exact h.2.2 a s' c' ha hs' hc2 hc4
theorem ok_l (ok : okD D) {i : Nat} (hi : i < dnc D) : (uN D (dlf D i) ∨ isK D (dlf D i)) ∧ (uN D (drg D i) ∨ isK D (drg D i)) := by
  obtain ⟨h1, h2⟩ := ok.2.2.2.2.2.1 i hi
  refine ⟨?_, ?_⟩
  · rcases h1 with h1 | h1
    · exact Or.inr h1
    · exact Or.inl ⟨h1, Or.inl ⟨i, hi, Or.inl rfl⟩⟩
  · rcases h2 with h2 | h2
    · exact Or.inr h2
    · exact Or.inl ⟨h2, Or.inl ⟨i, hi, Or.inr rfl⟩⟩
theorem ok_o (ok : okD D) {i : Nat} (hi : i < dno D) : uN D (dou D i) ∨ isK D (dou D i) := by
  rcases ok.2.2.2.2.2.2 i hi with h1 | h1
  · exact Or.inr h1
  · exact Or.inl ⟨h1, Or.inr ⟨i, hi, rfl⟩⟩
theorem cBl_highSlot {k : Nat} (hX : X.length = 13) (kk : P (.inl (some (.int (qi (4 + 2 * k)))), hpo X mem sw o e)) : QW (d + 1) mBl_highSlot 0 (qen 1 [.int (qi k)]) [] (hpo X mem sw o e) P := by
  refine bBl_highSlot_0 hX (bBl_lowSlot_0 hX (qcl_i (bBl_highSlot_4 hX ?_)))
  rw [q_low, qi_1, show 3 + 2 * k + 1 = 4 + 2 * k by omega]
  exact kk
theorem cBl_lowSlot {k : Nat} (hX : X.length = 13) (kk : P (.inl (some (.int (qi (3 + 2 * k)))), hpo X mem sw o e)) : QW d mBl_lowSlot 0 (qen 1 [.int (qi k)]) [] (hpo X mem sw o e) P := by
  refine bBl_lowSlot_0 hX ?_
  rw [q_low]
  exact kk
/-- only the classes of the form at t were written, and what was one class is one still -/
def jin (m mem : Nat → Nat → Int32) (t nn : Nat) (D : qD) : Prop := (∀ j q, j ≠ t + 8 → m j q = mem j q) ∧ cst D nn (nuv mem t) (m (t + 8)) ∧ ∀ a b, a < 27 → b < 27 → mem (t + 8) a = mem (t + 8) b → m (t + 8) a = m (t + 8) b
theorem jin_nst {m : Nat → Nat → Int32} (h : nst mem m0 t B nn D) (hj : jin m mem t nn D) : nst m m0 t B nn D := nst_to h (hj.1 _ _ (by omega)) (fun q => hj.1 _ _ (by omega)) (fun j q hq => hj.1 _ _ (by omega))
theorem jin_nu {m : Nat → Nat → Int32} (hj : jin m mem t nn D) : nuv m t = nuv mem t := by
  funext i
  unfold nuv
  rw [hj.1 _ _ (by omega)]
theorem jin_t {m m' : Nat → Nat → Int32} (h : jin m mem t nn D) (h' : jin m' m t nn D) : jin m' mem t nn D :=
  ⟨fun j q hj => (h'.1 j q hj).trans (h.1 j q hj), by rw [← jin_nu h]; exact h'.2.1, fun a b ha hb q => h'.2.2 a b ha hb (h.2.2 a b ha hb q)⟩
theorem cNf_joinEqualSides (hX : X.length = 13) (ht : kNf t) (hB : kBl B) (h : nst mem m0 t B nn D) (hc : cst D nn (nuv mem t) (mem (t + 8)))
    (k : ∀ m', jin m' mem t nn D → ecl D nn (nuv mem t) (m' (t + 8)) → P (.inl none, hpo X m' sw o e)) : QW (d + 3) mNf_joinEqualSides 0 (qen 3 [.ref t, .ref B]) [] (hpo X mem sw o e) P := by
  have hb := h.1
  have ok := hb.1
  have hBt := h.2.1
  have h15 := h.2.2.2.2.2.1
  have q6 := ok.2.1
  have lp : ∀ f i m, i + f = dnc D → jin m mem t nn D → (∀ j, j < i → ¬ dls D j → ∃ a b, nd D nn a ∧ nd D nn b ∧ cdn (nuv mem t) a = dlf D j ∧ cdn (nuv mem t) b = drg D j ∧ m (t + 8) a = m (t + 8) b) → QW (d + 3) mNf_joinEqualSides 2 (lNf_joinEqualSides_2 (qi i) t B) [] (hpo X m sw o e) P := by
    intro f
    induction f with
    | zero =>
      intro i m hi hj hE
      have hfr := (jin_nst h hj).2.2.2.1
      have hle : m B 3 ≤ qi i := by rw [hfr _ _ (by omega), hb.2.2.2.1]; exact (qi_le (by omega) (by omega)).mpr (by omega)
      exact bNf_joinEqualSides_2 hX ht hB (fun _ => k m hj (fun j hj' => hE j (by omega))) (fun z => absurd hle z) (fun z => absurd hle z) (fun z => absurd hle z)
    | succ f ih =>
      intro i m hi hj hE
      have hn := jin_nst h hj
      have hfr := hn.2.2.2.1
      have hle : ¬ m B 3 ≤ qi i := by rw [hfr _ _ (by omega), hb.2.2.2.1]; exact fun z => absurd ((qi_le (by omega) (by omega)).mp z) (by omega)
      have hN : Int32.toNatClampNeg (qi i) = i := qi_N (by omega)
      obtain ⟨s1, s2, s3⟩ := hb.2.2.2.2.2.2 i (by omega)
      obtain ⟨v1, v2⟩ := ok_l ok (show i < dnc D by omega)
      refine bNf_joinEqualSides_2 hX ht hB (fun z => absurd z hle) (fun _ => qi_inx (by omega) (by omega)) (fun _ z => ?_) (fun _ z => ?_)
      · rw [hN, hfr _ _ (by omega)] at z
        rw [qi_1]
        refine ih (i + 1) m (by omega) hj (fun j hj2 hl => ?_)
        by_cases e1 : j = i
        · subst e1
          exact absurd (s3.mpr z) hl
        · exact hE j (by omega) hl
      · rw [hN, hfr _ _ (by omega)] at z
        refine cBl_lowSlot hX (qcl_i (bNf_joinEqualSides_26 hX ht hB (cNf_classOfSlot hX ht hB hn (by omega) s1 v1 (fun a ha ea => qcl_i (bNf_joinEqualSides_29 hX ht hB (cBl_highSlot hX (qcl_i (bNf_joinEqualSides_35 hX ht hB (cNf_classOfSlot hX ht hB hn (by omega) s2 v2 (fun b hb' eb => qcl_i (bNf_joinEqualSides_38 hX ht hB ?_)))))))))))
        rw [jin_nu hj] at ea eb
        have hls : ¬ dls D i := fun q => s3.mp q z
        have he : eqv D (cdn (nuv mem t) a) (cdn (nuv mem t) b) := by
          rw [ea, eb]
          exact (eqv_clo D).2.2.2.1 i (by omega) hls
        refine cNf_merge hX ht (fun hab => qcl_i (bNf_joinEqualSides_41 hX ht hB ?_)) (fun hab m' hm hm2 => qcl_i (bNf_joinEqualSides_41 hX ht hB ?_))
        · rw [qi_1]
          refine ih (i + 1) m (by omega) hj (fun j hj2 hl => ?_)
          by_cases e1 : j = i
          · subst e1
            exact ⟨a, b, ha, hb', ea, eb, hab⟩
          · exact hE j (by omega) hl
        · have la := nd_lt ok ha
          have lb := nd_lt ok hb'
          have j2 : jin m' m t nn D := ⟨hm2, by rw [jin_nu hj]; exact cst_congr ok h15 (cst_mrg ok h15 hj.2.1 ha hb' he) hm, fun x y hx hy q => by rw [hm x hx, hm y hy]; exact mrg_eq q⟩
          rw [qi_1]
          refine ih (i + 1) m' (by omega) (jin_t hj j2) (fun j hj2 hl => ?_)
          by_cases e1 : j = i
          · subst e1
            refine ⟨a, b, ha, hb', ea, eb, ?_⟩
            rw [hm a (by omega), hm b (by omega)]
            exact mrg_xy
          · obtain ⟨x, y, hx, hy, ex, ey, exy⟩ := hE j (by omega) hl
            have := nd_lt ok hx
            have := nd_lt ok hy
            exact ⟨x, y, hx, hy, ex, ey, j2.2.2 x y (by omega) (by omega) exy⟩
  exact bNf_joinEqualSides_0 hX ht hB (lp (dnc D) 0 mem (by omega) ⟨fun _ _ _ => rfl, hc, fun _ _ _ _ q => q⟩ (fun j hj => absurd hj (by omega)))
theorem cNf_areOne {a b : Nat} (hX : X.length = 13) (ht : kNf t) (hB : kBl B) (h : nst mem m0 t B nn D) (ha : a < dns D) (hb2 : b < dns D) (k1 : on1 D (mem (t + 8)) a b → P (.inl (some (.int 1)), hpo X mem sw o e)) (k0 : ¬ on1 D (mem (t + 8)) a b → P (.inl (some (.int 0)), hpo X mem sw o e)) : QW d mNf_areOne 0 (qen 7 [.ref t, .int (qi a), .int (qi b), .ref B, .ref 14]) [] (hpo X mem sw o e) P := by
  have hb := h.1
  have ok := hb.1
  have hBt := h.2.1
  have h27 := h.2.2.1
  have hfr := h.2.2.2.1
  have q4 := ok.1.2
  have Na : Int32.toNatClampNeg (qi a) = a := qi_N (by omega)
  have Nb : Int32.toNatClampNeg (qi b) = b := qi_N (by omega)
  have ta := hb.2.2.2.2.1 a ha
  have tb := hb.2.2.2.2.1 b hb2
  have ra := ok.2.2.2.1 a ha
  have rb := ok.2.2.2.1 b hb2
  have ea : mem (B + 1) a = qi (dtb D a) := by rw [hfr _ _ (by omega)]; exact ta.1
  have eb : mem (B + 1) b = qi (dtb D b) := by rw [hfr _ _ (by omega)]; exact tb.1
  have hia : inx (qi a) 4 := qi_inx (by omega) (by omega)
  have hib : inx (qi b) 4 := qi_inx (by omega) (by omega)
  refine bNf_areOne_0 hX ht hB hia hib (fun _ => hia) (fun _ => by rw [Na, ea]; exact qi_inx (by omega) (by omega)) (fun z => ?_) (fun z => ?_)
  · rw [Na, Nb, ea, eb] at z
    have htab : dtb D a = dtb D b := qi_inj (by omega) (by omega) z
    rw [Na, ea, qi_N (by omega)]
    have hT : kTab (16 + 3 * dtb D a) := kTab_at (by omega)
    have e1 : mem (16 + 3 * dtb D a) 0 = qi (dcl D a) := by rw [hfr _ _ (by omega)]; exact ta.2.1
    have lp : ∀ f c, c + f = dcl D a → (∀ c', c' < c → ¬ (dky D a c' ∧ mem (t + 8) (3 * a + c') = mem (t + 8) (3 * b + c'))) → QW d mNf_areOne 34 (lNf_areOne_34 (qi a) (qi b) (16 + 3 * dtb D a) (qi c) t B) [] (hpo X mem sw o e) P := by
      intro f
      induction f with
      | zero =>
        intro c hc hno
        have hle : mem (16 + 3 * dtb D a) 0 ≤ qi c := by rw [e1]; exact (qi_le (by omega) (by omega)).mpr (by omega)
        exact bNf_areOne_34 hX ht hB hT (fun _ => k0 (fun ⟨_, c', h1, h2, h3⟩ => hno c' (by omega) ⟨h2, h3⟩)) (fun z => absurd hle z) (fun z => absurd hle z) (fun z => absurd hle z) (fun z => absurd hle z) (fun z => absurd hle z) (fun z => absurd hle z)
      | succ f ih =>
        intro c hc hno
        have hle : ¬ mem (16 + 3 * dtb D a) 0 ≤ qi c := by rw [e1]; exact fun z => absurd ((qi_le (by omega) (by omega)).mp z) (by omega)
        have Nc : Int32.toNatClampNeg (qi c) = c := qi_N (by omega)
        have m3 : ∀ x y : Nat, qi x * 3 + qi y = qi (3 * x + y) := fun x y => by rw [show (3 : Int32) = qi 3 from rfl, qi_mul, qi_add, Nat.mul_comm]
        have key := (ta.2.2 c (by omega))
        have ek : mem (16 + 3 * dtb D a + 1) c = m0 (17 + 3 * dtb D a) c := by rw [hfr _ _ (by omega), show 16 + 3 * dtb D a + 1 = 17 + 3 * dtb D a by omega]
        have go : ¬ (dky D a c ∧ mem (t + 8) (3 * a + c) = mem (t + 8) (3 * b + c)) → QW d mNf_areOne 34 (lNf_areOne_34 (qi a) (qi b) (16 + 3 * dtb D a) (qi c + 1) t B) [] (hpo X mem sw o e) P := by
          intro z
          rw [qi_1]
          refine ih (c + 1) (by omega) (fun c' hc' => ?_)
          by_cases e2 : c' = c
          · rw [e2]; exact z
          · exact hno c' (by omega)
        refine bNf_areOne_34 hX ht hB hT (fun z => absurd z hle) (fun _ => qi_inx (by omega) (by omega)) (fun _ z => go (fun q => ?_)) (fun _ _ => by rw [m3]; exact qi_inx (by omega) (by omega)) (fun _ _ => by rw [m3]; exact qi_inx (by omega) (by omega)) (fun _ _ z => go (fun q => ?_)) (fun _ z1 z2 => ?_)
        · rw [Nc, ek] at z
          exact key.mp q.1 z
        · rw [m3, m3, qi_N (by omega), qi_N (by omega)] at z
          exact z q.2
        · rw [Nc, ek] at z1
          rw [m3, m3, qi_N (by omega), qi_N (by omega)] at z2
          exact k1 ⟨htab, c, by omega, key.mpr z1, z2⟩
    exact lp (dcl D a) 0 (by omega) (fun c' hc' => absurd hc' (by omega))
  · rw [Na, Nb, ea, eb] at z
    exact k0 (fun q => z (by rw [q.1]))
/-- two sources are one in all three places -/
def f3 (g : Nat → Int32) (a b : Nat) : Prop := ∀ c, c < 3 → g (3 * a + c) = g (3 * b + c)
theorem cNf_mergeColumns {a b : Nat} (hX : X.length = 13) (ht : kNf t) (h : nst mem m0 t B nn D) (hc : cst D nn (nuv mem t) (mem (t + 8))) (ha : a < dns D) (hb2 : b < dns D) (ho : on1 D (mem (t + 8)) a b)
    (k : ∀ m' r, jin m' mem t nn D → f3 (m' (t + 8)) a b → (r = 0 → ∀ x, x < 27 → m' (t + 8) x = mem (t + 8) x) → (¬ r = 0 → ¬ f3 (mem (t + 8)) a b) → P (.inl (some (.int r)), hpo X m' sw o e)) : QW (d + 1) mNf_mergeColumns 0 (qen 5 [.ref t, .int (qi a), .int (qi b)]) [] (hpo X mem sw o e) P := by
  have ok := h.1.1
  have h15 := h.2.2.2.2.2.1
  have q4 := ok.1.2
  have hone := snd_one ok hc.1 ha hb2 ho
  have ecl' := (ok.2.2.2.2.1 a b ha hb2 ho.1).1
  have m3 : ∀ x y : Nat, qi x * 3 + qi y = qi (3 * x + y) := fun x y => by rw [show (3 : Int32) = qi 3 from rfl, qi_mul, qi_add, Nat.mul_comm]
  have lp : ∀ f c m r, c + f = 3 → b01 r → jin m mem t nn D → (∀ c', c' < c → m (t + 8) (3 * a + c') = m (t + 8) (3 * b + c')) → (r = 0 → ∀ x, x < 27 → m (t + 8) x = mem (t + 8) x) → (¬ r = 0 → ¬ f3 (mem (t + 8)) a b) → QW (d + 1) mNf_mergeColumns 5 (lNf_mergeColumns_5 (qi a) (qi b) r (qi c) t) [] (hpo X m sw o e) P := by
    intro f
    induction f with
    | zero =>
      intro c m r hc' hr hj hF h0 h1
      obtain rfl : c = 3 := by omega
      have hle : (3 : Int32) ≤ qi 3 := by decide
      refine bNf_mergeColumns_5 hX ht (fun _ => ?_) (fun _ => k m r hj hF h0 h1) (fun z => absurd hle z) (fun z => absurd hle z) (fun z => absurd hle z)
      rcases hr with rfl | rfl <;> rfl
    | succ f ih =>
      intro c m r hc' hr hj hF h0 h1
      refine bNf_mergeColumns_5 hX ht (fun z => absurd ((qi_le (a := 3) (by omega) (by omega)).mp z) (by omega)) (fun z => absurd ((qi_le (a := 3) (by omega) (by omega)).mp z) (by omega)) (fun _ => by rw [m3]; exact qi_inx (by omega) (by omega)) (fun _ => by rw [m3]; exact qi_inx (by omega) (by omega)) (fun _ => ?_)
      rw [m3, m3, qi_N (by omega), qi_N (by omega)]
      refine cNf_merge hX ht (fun hab => qcl_i (bNf_mergeColumns_37 hX ht (fun _ => ?_) (fun z => absurd rfl z))) (fun hab m' hm hm2 => qcl_i (bNf_mergeColumns_37 hX ht (fun z => absurd z (by decide)) (fun _ => ?_)))
      · rw [qi_1]
        refine ih (c + 1) m r (by omega) hr hj (fun c2 hc2 => ?_) h0 h1
        by_cases e1 : c2 = c
        · rw [e1]; exact hab
        · exact hF c2 (by omega)
      · have hcs : cst D nn (nuv mem t) (mrg (m (t + 8)) (m (t + 8) (3 * a + c)) (m (t + 8) (3 * b + c))) := by
          by_cases hcc : c < dcl D a
          · have n1 := nd_col ok (nn := nn) (nu := nuv mem t) ha hcc
            have n2 := nd_col ok (nn := nn) (nu := nuv mem t) hb2 (show c < dcl D b by omega)
            exact cst_mrg ok h15 hj.2.1 n1.1 n2.1 (by rw [n1.2, n2.2]; exact one_full ha hb2 hone hcc)
          · exact cst_mrn ok hj.2.1 ha hb2 (by omega) (by omega) (by omega)
        have j2 : jin m' m t nn D := ⟨hm2, by rw [jin_nu hj]; exact cst_congr ok h15 hcs hm, fun x y hx hy q => by rw [hm x hx, hm y hy]; exact mrg_eq q⟩
        rw [qi_1]
        refine ih (c + 1) m' 1 (by omega) (Or.inr rfl) (jin_t hj j2) (fun c2 hc2 => ?_) (fun z => absurd z (by decide)) (fun _ => fun q => ?_)
        · by_cases e1 : c2 = c
          · rw [e1, hm _ (by omega), hm _ (by omega)]
            exact mrg_xy
          · exact j2.2.2 _ _ (by omega) (by omega) (hF c2 (by omega))
        · exact hab (hj.2.2 _ _ (by omega) (by omega) (q c (by omega)))
  exact bNf_mergeColumns_0 hX ht (lp 3 0 mem 0 (by omega) (Or.inl rfl) ⟨fun _ _ _ => rfl, hc, fun _ _ _ _ q => q⟩ (fun c' hc' => absurd hc' (by omega)) (fun _ _ _ => rfl) (fun z => absurd rfl z))
theorem cNf_joinOnes (hX : X.length = 13) (ht : kNf t) (hB : kBl B) (h : nst mem m0 t B nn D) (hc : cst D nn (nuv mem t) (mem (t + 8)))
    (k : ∀ m', jin m' mem t nn D → kcl D (m' (t + 8)) → P (.inl none, hpo X m' sw o e)) : QW (d + 3) mNf_joinOnes 0 (qen 7 [.ref t, .ref B, .ref 14]) [] (hpo X mem sw o e) P := by
  have hb := h.1
  have ok := hb.1
  have hBt := h.2.1
  have q4 := ok.1.2
  have f3r : ∀ (g : Nat → Int32) s, f3 g s s := fun g s c _ => rfl
  have f3s : ∀ (g : Nat → Int32) r s, f3 g r s → f3 g s r := fun g r s q c hc => (q c hc).symm
  have f3t : ∀ (g : Nat → Int32) r s u, f3 g r s → f3 g s u → f3 g r u := fun g r s u q1 q2 c hc => (q1 c hc).trans (q2 c hc)
  -- one round
  have rnd : ∀ kk m2, kk < 12 → jin m2 mem t nn D → kk ≤ cnF (f3 (m2 (t + 8))) → (∀ m ch w5 w6, qfr w5 → qfr w6 → jin m mem t nn D → (ch = 0 → kcl D (m (t + 8))) → (¬ ch = 0 → kk + 1 ≤ cnF (f3 (m (t + 8)))) → QW (d + 3) mNf_joinOnes 5 (lNf_joinOnes_5 ch (qi (kk + 1)) w5 w6 t B) [] (hpo X m sw o e) P) → ∀ w6, qfr w6 → QW (d + 3) mNf_joinOnes 21 (lNf_joinOnes_21 0 (qi kk) 0 w6 t B) [] (hpo X m2 sw o e) P := by
    intro kk m2 hk12 hj0 hk0 nxt w6 hw6
    -- sources s from the outer loop
    have outer : ∀ f s m ch w6, s + f = dns D → qfr w6 → jin m mem t nn D → (ch = 0 → ∀ x y, x < s → x < y → y < dns D → on1 D (m (t + 8)) x y → f3 (m (t + 8)) x y) → kk ≤ cnF (f3 (m (t + 8))) → (¬ ch = 0 → kk + 1 ≤ cnF (f3 (m (t + 8)))) → QW (d + 3) mNf_joinOnes 21 (lNf_joinOnes_21 ch (qi kk) (qi s) w6 t B) [] (hpo X m sw o e) P := by
      intro f
      induction f with
      | zero =>
        intro s m ch w6 hs hw6 hj h0 hk1 h1
        have hfr := (jin_nst h hj).2.2.2.1
        have hle : m B 2 ≤ qi s := by rw [hfr _ _ (by omega), hb.2.2.1]; exact (qi_le (by omega) (by omega)).mpr (by omega)
        refine bNf_joinOnes_21 hX ht hB hw6 (fun _ => ?_) (fun z => absurd hle z)
        rw [qi_1]
        refine nxt m ch _ w6 (Or.inr (Or.inl ⟨_, rfl⟩)) hw6 hj (fun z x y hx hy ho => ?_) h1
        have cl := (ok.2.2.2.2.1 x y hx hy ho.1)
        have r3 := (ok.2.2.2.1 x hx).1
        intro c hcx
        rcases Nat.lt_trichotomy x y with q | q | q
        · exact h0 z x y (by omega) q hy ho c (by omega)
        · rw [q]
        · obtain ⟨o1, c1, o2, o3, o4⟩ := ho
          exact (h0 z y x (by omega) q hx ⟨o1.symm, c1, by omega, (cl.2 c1).mp o3, o4.symm⟩ c (by omega)).symm
      | succ f ih =>
        intro s m ch w6 hs hw6 hj h0 hk1 h1
        have hfr := (jin_nst h hj).2.2.2.1
        have hle : ¬ m B 2 ≤ qi s := by rw [hfr _ _ (by omega), hb.2.2.1]; exact fun z => absurd ((qi_le (by omega) (by omega)).mp z) (by omega)
        refine bNf_joinOnes_21 hX ht hB hw6 (fun z => absurd z hle) (fun _ => ?_)
        rw [qi_1]
        have inner : ∀ f2 y m ch, y + f2 = dns D → s < y → jin m mem t nn D → (ch = 0 → ∀ x y', x < s → x < y' → y' < dns D → on1 D (m (t + 8)) x y' → f3 (m (t + 8)) x y') → (ch = 0 → ∀ y', s < y' → y' < y → on1 D (m (t + 8)) s y' → f3 (m (t + 8)) s y') → kk ≤ cnF (f3 (m (t + 8))) → (¬ ch = 0 → kk + 1 ≤ cnF (f3 (m (t + 8)))) → QW (d + 3) mNf_joinOnes 36 (lNf_joinOnes_36 ch (qi kk) (qi s) (qi y) t B) [] (hpo X m sw o e) P := by
          intro f2
          induction f2 with
          | zero =>
            intro y m ch hy hsy hj h0 h00 hk1 h1
            have hfr := (jin_nst h hj).2.2.2.1
            have hle : m B 2 ≤ qi y := by rw [hfr _ _ (by omega), hb.2.2.1]; exact (qi_le (by omega) (by omega)).mpr (by omega)
            refine bNf_joinOnes_36 hX ht hB (fun _ => ?_) (fun z => absurd hle z)
            rw [qi_1]
            refine ih (s + 1) m ch _ (by omega) (Or.inr (Or.inl ⟨_, rfl⟩)) hj (fun z x y' hx hxy hy' ho => ?_) hk1 h1
            by_cases e1 : x = s
            · subst e1
              exact h00 z y' hxy (by omega) ho
            · exact h0 z x y' (by omega) hxy hy' ho
          | succ f2 ih2 =>
            intro y m ch hy hsy hj h0 h00 hk1 h1
            have hn := jin_nst h hj
            have hfr := hn.2.2.2.1
            have hle : ¬ m B 2 ≤ qi y := by rw [hfr _ _ (by omega), hb.2.2.1]; exact fun z => absurd ((qi_le (by omega) (by omega)).mp z) (by omega)
            refine bNf_joinOnes_36 hX ht hB (fun z => absurd z hle) (fun _ => ?_)
            refine cNf_areOne hX ht hB hn (by omega) (by omega) (fun ho => qcl_i ?_) (fun ho => qcl_i ?_)
            · refine bNf_joinOnes_55 hX ht hB (fun z => absurd z (by decide)) (fun _ => ?_)
              refine cNf_mergeColumns hX ht hn (by rw [jin_nu hj]; exact hj.2.1) (by omega) (by omega) ho (fun m' r hj' hf hr0 hr1 => qcl_i ?_)
              refine bNf_joinOnes_66 hX ht hB (fun z => ?_) (fun z => ?_)
              · have heq := hr0 z
                have o1 : ∀ x y', x < dns D → y' < dns D → on1 D (m' (t + 8)) x y' → on1 D (m (t + 8)) x y' := by
                  rintro x y' hx hy' ⟨a1, c1, a2, a3, a4⟩
                  have r1 := (ok.2.2.2.1 x hx).1
                  rw [heq _ (by omega), heq _ (by omega)] at a4
                  exact ⟨a1, c1, a2, a3, a4⟩
                have fm : ∀ x y', f3 (m (t + 8)) x y' → x < 4 → y' < 4 → f3 (m' (t + 8)) x y' := fun x y' q hx hy' c hc => hj'.2.2 _ _ (by omega) (by omega) (q c hc)
                have cm : cnF (f3 (m (t + 8))) ≤ cnF (f3 (m' (t + 8))) := by
                  refine Nat.le_trans (Nat.le_of_eq ?_) (cnF_mono (F := fun a b => f3 (m (t + 8)) a b ∧ a < 4 ∧ b < 4) (fun r s q => fm r s q.1 q.2.1 q.2.2))
                  unfold cnF bef
                  have z : ∀ s, s < 4 → (∃ r, r < s ∧ f3 (m (t + 8)) r s) = ∃ r, r < s ∧ f3 (m (t + 8)) r s ∧ r < 4 ∧ s < 4 := fun s hs => propext ⟨fun ⟨r, q1, q2⟩ => ⟨r, q1, q2, by omega, hs⟩, fun ⟨r, q1, q2, _⟩ => ⟨r, q1, q2⟩⟩
                  rw [z 1 (by omega), z 2 (by omega), z 3 (by omega)]
                rw [qi_1]
                refine ih2 (y + 1) m' ch (by omega) (by omega) (jin_t hj hj') (fun zz x y' hx hxy hy' ho' => fm x y' (h0 zz x y' hx hxy hy' (o1 x y' (by omega) hy' ho')) (by omega) (by omega)) (fun zz y' hy1 hy2 ho' => ?_) (Nat.le_trans hk1 cm) (fun zz => Nat.le_trans (h1 zz) cm)
                by_cases e1 : y' = y
                · subst e1
                  exact hf
                · exact fm s y' (h00 zz y' hy1 (by omega) (o1 s y' (by omega) (by omega) ho')) (by omega) (by omega)
              · have lt : cnF (f3 (m (t + 8))) < cnF (f3 (m' (t + 8))) := by
                  have e0 : cnF (f3 (m (t + 8))) = cnF (fun a b => a = b ∨ (f3 (m (t + 8)) a b ∧ a < 4 ∧ b < 4)) := by
                    unfold cnF bef
                    have z : ∀ s, s < 4 → (∃ r, r < s ∧ f3 (m (t + 8)) r s) = ∃ r, r < s ∧ (r = s ∨ f3 (m (t + 8)) r s ∧ r < 4 ∧ s < 4) := fun s hs => propext ⟨fun ⟨r, q1, q2⟩ => ⟨r, q1, Or.inr ⟨q2, by omega, hs⟩⟩, fun ⟨r, q1, q2⟩ => ⟨r, q1, by
                      rcases q2 with q2 | q2
                      · omega
                      · exact q2.1⟩⟩
                    rw [z 1 (by omega), z 2 (by omega), z 3 (by omega)]
                  rw [e0]
                  refine cnF_lt (s := s) (t := y) (fun s => Or.inl rfl) (fun r s q => ?_) (fun r s u q1 q2 => ?_) (fun r s q => ?_) (f3s _) (f3t _) (by omega) (by omega) (fun q => ?_) hf
                  · rcases q with q | q
                    · exact Or.inl q.symm
                    · exact Or.inr ⟨f3s _ _ _ q.1, q.2.2, q.2.1⟩
                  · rcases q1 with rfl | q1
                    · exact q2
                    · rcases q2 with rfl | q2
                      · exact Or.inr q1
                      · exact Or.inr ⟨f3t _ _ _ _ q1.1 q2.1, q1.2.1, q2.2.2⟩
                  · rcases q with rfl | q
                    · exact f3r _ _
                    · exact fun c hc => hj'.2.2 _ _ (by omega) (by omega) (q.1 c hc)
                  · rcases q with q | q
                    · omega
                    · exact hr1 z q.1
                rw [qi_1]
                exact ih2 (y + 1) m' 1 (by omega) (by omega) (jin_t hj hj') (fun zz => absurd zz (by decide)) (fun zz => absurd zz (by decide)) (by omega) (fun _ => by omega)
            · refine bNf_joinOnes_55 hX ht hB (fun _ => ?_) (fun z => absurd rfl z)
              rw [qi_1]
              refine ih2 (y + 1) m ch (by omega) (by omega) hj h0 (fun zz y' hy1 hy2 ho' => ?_) hk1 h1
              by_cases e1 : y' = y
              · subst e1
                exact absurd ho' ho
              · exact h00 zz y' hy1 (by omega) ho'
        exact inner (dns D - (s + 1)) (s + 1) m ch (by omega) (by omega) hj h0 (fun _ y' hy1 hy2 => absurd hy2 (by omega)) hk1 h1
    exact outer (dns D) 0 m2 0 w6 (by omega) hw6 hj0 (fun _ x y hx => absurd hx (by omega)) hk0 (fun z => absurd rfl z)
  have lp : ∀ f kk m ch w5 w6, kk + f = 12 → qfr w5 → qfr w6 → jin m mem t nn D → (ch = 0 → kcl D (m (t + 8))) → (¬ ch = 0 → kk ≤ cnF (f3 (m (t + 8)))) → QW (d + 3) mNf_joinOnes 5 (lNf_joinOnes_5 ch (qi kk) w5 w6 t B) [] (hpo X m sw o e) P := by
    intro f
    induction f with
    | zero =>
      intro kk m ch w5 w6 hk hw5 hw6 hj h0 h1
      obtain rfl : kk = 12 := by omega
      have hle : (12 : Int32) ≤ qi 12 := by decide
      refine bNf_joinOnes_5 hX ht hB hw5 hw6 (fun _ => k m hj (h0 (Classical.byContradiction fun z => ?_))) (fun z => absurd hle z) (fun z => absurd hle z)
      have := cnF_3 (f3 (m (t + 8)))
      have := h1 z
      omega
    | succ f ih =>
      intro kk m ch w5 w6 hk hw5 hw6 hj h0 h1
      refine bNf_joinOnes_5 hX ht hB hw5 hw6 (fun z => absurd ((qi_le (a := 12) (by omega) (by omega)).mp z) (by omega)) (fun _ z => k m hj (h0 z)) (fun _ z => ?_)
      exact rnd kk m (by omega) hj (h1 z) (fun m' ch' w5' w6' q5 q6 qj q0 q1 => ih (kk + 1) m' ch' w5' w6' (by omega) q5 q6 qj q0 q1) w6 hw6
  exact bNf_joinOnes_0 hX ht hB (lp 12 0 mem 1 .unset .unset (by omega) (Or.inl rfl) (Or.inl rfl) ⟨fun _ _ _ => rfl, hc, fun _ _ _ _ q => q⟩ (fun z => absurd z (by decide)) (fun _ => Nat.zero_le _))
end NF2
