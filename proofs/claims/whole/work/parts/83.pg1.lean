/-- the values x and y go with each other where source s is paired with p s -/
def gw (D E : qD) (p : Nat → Nat) (x y : Int32) : Prop := (∃ v, num D x v ∧ num E y v) ∨ ((∀ v, ¬ num D x v) ∧ (∀ v, ¬ num E y v) ∧ ∃ s c, std D s ∧ c < dcl D s ∧ eqv D (cc s c) x ∧ eqv E (cc (p s) c) y)
def cft (D E : qD) (p : Nat → Nat) : Prop := ∀ s c, std D s → c < dcl D s → (∀ v, num D (cc s c) v ↔ num E (cc (p s) c) v) ∧ ∀ s' c', std D s' → c' < dcl D s' → (eqv D (cc s' c') (cc s c) ↔ eqv E (cc (p s') c') (cc (p s) c))
def oft (D E : qD) (p : Nat → Nat) : Prop := ∀ k, k < dno D → gw D E p (dou D k) (dou E k)
def slz (D E : qD) (p : Nat → Nat) (i j : Nat) : Prop := gw D E p (dlf D i) (dlf E j) ∧ gw D E p (drg D i) (drg E j)
def lfs (D E : qD) (p : Nat → Nat) : Prop := (∀ i, i < dnc D → opn D i → ∃ j, j < dnc E ∧ opn E j ∧ slz D E p i j) ∧ ∀ j, j < dnc E → opn E j → ∃ i, i < dnc D ∧ opn D i ∧ slz D E p i j
def ftp (D E : qD) (p : Nat → Nat) : Prop := cft D E p ∧ oft D E p ∧ lfs D E p
def prg (D E : qD) (p : Nat → Nat) : Prop := (∀ s, std D s → std E (p s) ∧ dtb D s = dtb E (p s)) ∧ ∀ s t, std D s → std D t → p s = p t → s = t
/-- both are of one catalog -/
def cat2 (D E : qD) : Prop := ∀ s t, s < dns D → t < dns E → dtb D s = dtb E t → dcl D s = dcl E t
section PG1
variable {d : Nat} {P : qE → Prop} {X : qH} {sw : Bool} {o : Int64} {e : List Nat} {mem m0 : Nat → Nat → Int32} {D E : qD} {r1 r2 n1 n2 l1 l2 : Nat} {u1 u2 : Nat → Nat} {f1 f2 : Int32}
theorem cn_iff {nn nn' : Nat} {nu nu' g g' cn cn' : Nat → Int32} (hD : ¬ Em1 D) (hE : ¬ Em1 E) (h1 : cnp D nn nu g cn) (h2 : cnp E nn' nu' g' cn') {a b : Nat} (ha : nd D nn a) (hb : nd E nn' b) : cn (Int32.toNatClampNeg (g a)) = cn' (Int32.toNatClampNeg (g' b)) ↔ ∀ v, num D (cdn nu a) v ↔ num E (cdn nu' b) v := by
  obtain ⟨a1, a2⟩ := h1 a ha
  obtain ⟨b1, b2⟩ := h2 b hb
  constructor
  · intro h v
    constructor
    · intro hv
      have q := a1 v hv
      by_cases hw : ∃ w, num E (cdn nu' b) w
      · obtain ⟨w, hw⟩ := hw
        have := b1 w hw
        rw [← h, q] at this
        rw [this]; exact hw
      · have := b2 (fun w z => hw ⟨w, z⟩)
        rw [← h] at this
        rw [this] at q
        exact absurd (q ▸ hv.1.1) (fun z => isN_k z rfl)
    · intro hv
      have q := b1 v hv
      by_cases hw : ∃ w, num D (cdn nu a) w
      · obtain ⟨w, hw⟩ := hw
        have := a1 w hw
        rw [h, q] at this
        rw [this]; exact hw
      · have := a2 (fun w z => hw ⟨w, z⟩)
        rw [h] at this
        rw [this] at q
        exact absurd (q ▸ hv.1.1) (fun z => isN_k z rfl)
  · intro h
    by_cases hw : ∃ w, num D (cdn nu a) w
    · obtain ⟨w, hw⟩ := hw
      exact i2k.mp ((a1 w hw).trans (b1 w ((h w).mp hw)).symm)
    · rw [a2 (fun w z => hw ⟨w, z⟩), b2 (fun w z => hw ⟨w, (h w).mpr z⟩)]
theorem cn_no {nn : Nat} {nu g cn : Nat → Int32} (h1 : cnp D nn nu g cn) {a : Nat} (ha : nd D nn a) : cn (Int32.toNatClampNeg (g a)) = -1000 ↔ ∀ v, ¬ num D (cdn nu a) v := by
  obtain ⟨a1, a2⟩ := h1 a ha
  refine ⟨fun h v hv => ?_, a2⟩
  have := a1 v hv
  rw [h] at this
  exact isN_k (x := -1000) (this ▸ hv.1.1) rfl
/-- the two forms, and the partners of the first's sources: p s is the source that is s's partner -/
def pst (m m0 : Nat → Nat → Int32) (D E : qD) (r1 r2 n1 n2 l1 l2 : Nat) (u1 u2 : Nat → Nat) (f1 f2 : Int32) : Prop := (r1 + 10 ≤ 191 ∧ r2 + 10 ≤ 191) ∧ (∀ j q, j ≠ 191 → j ≠ 192 → m j q = m0 j q) ∧ nfo D m0 r1 n1 l1 u1 f1 ∧ nfo E m0 r2 n2 l2 u2 f2 ∧ ¬ Emp D ∧ ¬ Emp E ∧ cat2 D E
def pok (m : Nat → Nat → Int32) (D E : qD) (l1 l2 : Nat) (u1 u2 q p : Nat → Nat) : Prop := ∀ i, i < l1 → m 191 i = qi (q i) ∧ q i < l2 ∧ u2 (q i) = p (u1 i) ∧ dtb D (u1 i) = dtb E (p (u1 i))
theorem lft_4 {n lc : Nat} {l : Nat → Nat} (ok : okD D) (h : lft D n lc l) (hn : n ≤ dns D) : lc ≤ 4 := by
  have := ctS_le D n
  have := ok.1.2
  rw [h.1]
  omega
theorem cNf_classOf {r nn lc i c : Nat} {l : Nat → Nat} {sf : Int32} (hX : X.length = 13) (hr : kNf r) (hr2 : r + 10 ≤ 191) (hf : ∀ j q, j ≠ 191 → j ≠ 192 → mem j q = m0 j q) (h : nfo D m0 r nn lc l sf) (hi : i < lc) (hc : c < dcl D (l i)) (k : P (.inl (some (.int (m0 (r + 8) (3 * l i + c)))), hpo X mem sw o e)) : QW d mNf_classOf 0 (qen 3 [.ref r, .int (qi i), .int (qi c)]) [] (hpo X mem sw o e) P := by
  obtain ⟨ok, h15, hfr, hid, hb, hE, hs, ho, hou, hno, h7, hl, hm⟩ := h
  have l4 := lft_4 ok hl (Nat.le_refl _)
  have q4 := ok.1.2
  have hst := (hl.2.1 i hi).1
  have rc := (ok.2.2.2.1 (l i) hst.1).1
  have Ni : Int32.toNatClampNeg (qi i) = i := qi_N (by omega)
  have hlt := hst.1
  have e1 : mem (r + 4) (Int32.toNatClampNeg (qi i)) * 3 + qi c = qi (3 * l i + c) := by
    rw [Ni, hf _ _ (by omega) (by omega), (hm i hi).1, show (3 : Int32) = qi 3 from rfl, qi_mul, qi_add, Nat.mul_comm]
  refine bNf_classOf_0 hX hr (qi_inx (by omega) (by omega)) (by rw [e1]; exact qi_inx (by omega) (by omega)) ?_
  rw [e1, qi_N (by omega), hf _ _ (by omega) (by omega)]
  exact k
theorem q_le3 {x y : Nat} (hx : x < 2147483648) (hy : y < 2147483648) : (qi x ≤ qi y) ↔ x ≤ y := qi_le hx hy
theorem cPg_columnFits {q p : Nat → Nat} {i c : Nat} (hX : X.length = 13) (k1 : kNf r1) (k2 : kNf r2) (h : pst mem m0 D E r1 r2 n1 n2 l1 l2 u1 u2 f1 f2) (hp : pok mem D E l1 l2 u1 u2 q p) (hi : i < l1) (hc : c < dcl D (u1 i))
    (kt : ((∀ v, num D (cc (u1 i) c) v ↔ num E (cc (p (u1 i)) c) v) ∧ ∀ s' c', std D s' → c' < dcl D s' → (eqv D (cc s' c') (cc (u1 i) c) ↔ eqv E (cc (p s') c') (cc (p (u1 i)) c))) → P (.inl (some (.int 1)), hpo X mem sw o e))
    (kf : (¬ ((∀ v, num D (cc (u1 i) c) v ↔ num E (cc (p (u1 i)) c) v) ∧ ∀ s' c', std D s' → c' < dcl D s' → (eqv D (cc s' c') (cc (u1 i) c) ↔ eqv E (cc (p s') c') (cc (p (u1 i)) c)))) → P (.inl (some (.int 0)), hpo X mem sw o e)) :
    QW (d + 1) mPg_columnFits 0 (qen 9 [.ref 190, .int (qi i), .int (qi c), .ref r1, .ref r2]) [] (hpo X mem sw o e) P := by
  obtain ⟨hr, hf, hA, hB, nA, nB, hcat⟩ := h
  have okA := hA.1
  have okB := hB.1
  have fA := hA.2.2.1
  have fB := hB.2.2.1
  have lA := hA.2.2.2.2.2.2.2.2.2.2.2.1
  have lB := hB.2.2.2.2.2.2.2.2.2.2.2.1
  have mA := hA.2.2.2.2.2.2.2.2.2.2.2.2
  have h7 : mem r1 7 = qi l1 := by rw [hf _ _ (by omega) (by omega)]; exact hA.2.2.2.2.2.2.2.2.2.2.1
  have cA := (hA.2.2.2.2.2.2.2.2.2.1 nA).1
  have cB := (hB.2.2.2.2.2.2.2.2.2.1 nB).1
  have l4 := lft_4 okA lA (Nat.le_refl _)
  have l4' := lft_4 okB lB (Nat.le_refl _)
  have a4 := okA.1.2
  have b4 := okB.1.2
  -- a standing source's column, and its partner's
  have nod : ∀ i c, i < l1 → c < dcl D (u1 i) → (nd D n1 (3 * u1 i + c) ∧ cdn (nuv m0 r1) (3 * u1 i + c) = cc (u1 i) c) ∧ (nd E n2 (3 * u2 (q i) + c) ∧ cdn (nuv m0 r2) (3 * u2 (q i) + c) = cc (p (u1 i)) c) ∧ c < dcl E (u2 (q i)) ∧ u1 i < 4 ∧ u2 (q i) < 4 ∧ c < 3 := by
    intro i c hi hc
    have s1 := (lA.2.1 i hi).1.1
    have pp := hp i hi
    have s2 := (lB.2.1 (q i) pp.2.1).1.1
    have hd : dcl D (u1 i) = dcl E (u2 (q i)) := hcat _ _ s1 s2 (by rw [pp.2.2.1]; exact pp.2.2.2)
    have r3 := (okA.2.2.2.1 _ s1).1
    have hc2 : c < dcl E (u2 (q i)) := by omega
    refine ⟨nd_col okA s1 hc, ?_, hc2, by omega, by omega, by omega⟩
    have := nd_col okB (nn := n2) (nu := nuv m0 r2) s2 hc2
    rw [pp.2.2.1] at this ⊢
    exact this
  obtain ⟨⟨na, ca⟩, ⟨nb, cb⟩, hcb, x1, x2, x3⟩ := nod i c hi hc
  have Ni : Int32.toNatClampNeg (qi i) = i := qi_N (by omega)
  have pi := hp i hi
  refine bPg_columnFits_0 hX k1 k2 (cNf_classOf hX k1 hr.1 hf hA hi hc (qcl_i ?_))
  refine bPg_columnFits_6 hX k1 k2 (qi_inx (by omega) (by omega)) ?_
  rw [Ni, pi.1]
  refine cNf_classOf hX k2 hr.2 hf hB pi.2.1 hcb (qcl_i ?_)
  obtain ⟨ia, hia, ga⟩ := hA.2.2.2.1 (3 * u1 i + c) (by omega)
  obtain ⟨ib, hib, gb⟩ := hB.2.2.2.1 (3 * u2 (q i) + c) (by omega)
  have key := cn_iff (fun z => nA (Or.inl z)) (fun z => nB (Or.inl z)) cA cB na nb
  rw [ca, cb] at key
  refine bPg_columnFits_20 hX k1 k2 (by rw [ga]; exact qi_inx (by omega) (by omega)) (by rw [gb]; exact qi_inx (by omega) (by omega)) (fun z => ?_) (fun z => kf (fun w => z ?_))
  · rw [hf _ _ (by omega) (by omega), hf _ _ (by omega) (by omega), key] at z
    have lp : ∀ f x w8, x + f = l1 → qfr w8 → (∀ x' c', x' < x → c' < dcl D (u1 x') → (eqv D (cc (u1 x') c') (cc (u1 i) c) ↔ eqv E (cc (p (u1 x')) c') (cc (p (u1 i)) c))) → QW (d + 1) mPg_columnFits 45 (lPg_columnFits_45 (qi i) (qi c) (m0 (r1 + 8) (3 * u1 i + c)) (m0 (r2 + 8) (3 * u2 (q i) + c)) (qi x) w8 r1 r2) [] (hpo X mem sw o e) P := by
      intro f
      induction f with
      | zero =>
        intro x w8 hx hw8 hall
        have hle : mem r1 7 ≤ qi x := by rw [h7]; exact (qi_le (by omega) (by omega)).mpr (by omega)
        refine bPg_columnFits_45 hX k1 k2 hw8 (fun _ => kt ⟨z, fun s' c' hs' hc' => ?_⟩) (fun z => absurd hle z)
        obtain ⟨x', hx', rfl⟩ := lA.2.2.2 s' hs'.1 hs'
        exact hall x' c' (by omega) hc'
      | succ f ih =>
        intro x w8 hx hw8 hall
        have hle : ¬ mem r1 7 ≤ qi x := by rw [h7]; exact fun z => absurd ((qi_le (by omega) (by omega)).mp z) (by omega)
        refine bPg_columnFits_45 hX k1 k2 hw8 (fun z => absurd z hle) (fun _ => ?_)
        have Nx : Int32.toNatClampNeg (qi x) = x := qi_N (by omega)
        have px := hp x (by omega)
        have sx := (lA.2.1 x (by omega)).1.1
        have rx := (okA.2.2.2.1 _ sx).1
        have e6 : mem (r1 + 6) (Int32.toNatClampNeg (qi x)) = qi (dcl D (u1 x)) := by rw [Nx, hf _ _ (by omega) (by omega)]; exact (mA x (by omega)).2.2
        have inn : ∀ g y, y + g = dcl D (u1 x) → (∀ c', c' < y → (eqv D (cc (u1 x) c') (cc (u1 i) c) ↔ eqv E (cc (p (u1 x)) c') (cc (p (u1 i)) c))) → QW (d + 1) mPg_columnFits 57 (lPg_columnFits_57 (qi i) (qi c) (m0 (r1 + 8) (3 * u1 i + c)) (m0 (r2 + 8) (3 * u2 (q i) + c)) (qi x) (qi y) r1 r2) [] (hpo X mem sw o e) P := by
          intro g
          induction g with
          | zero =>
            intro y hy hall2
            have hle : mem (r1 + 6) (Int32.toNatClampNeg (qi x)) ≤ qi y := by rw [e6]; exact (qi_le (by omega) (by omega)).mpr (by omega)
            refine bPg_columnFits_57 hX k1 k2 (qi_inx (by omega) (by omega)) (fun _ => ?_) (fun z => absurd hle z)
            rw [qi_1]
            refine ih (x + 1) _ (by omega) (Or.inr (Or.inl ⟨_, rfl⟩)) (fun x' c' hx' hc' => ?_)
            by_cases ex : x' = x
            · subst ex
              exact hall2 c' (by omega)
            · exact hall x' c' (by omega) hc'
          | succ g ih2 =>
            intro y hy hall2
            have hle : ¬ mem (r1 + 6) (Int32.toNatClampNeg (qi x)) ≤ qi y := by rw [e6]; exact fun z => absurd ((qi_le (by omega) (by omega)).mp z) (by omega)
            obtain ⟨⟨nxa, cxa⟩, ⟨nxb, cxb⟩, hcxb, y1, y2, y3⟩ := nod x y (by omega) (by omega)
            refine bPg_columnFits_57 hX k1 k2 (qi_inx (by omega) (by omega)) (fun z => absurd z hle) (fun _ => ?_)
            have ea := fA.2.2 _ _ nxa na
            have eb := fB.2.2 _ _ nxb nb
            rw [cxa, ca] at ea
            rw [cxb, cb] at eb
            have tl : ∀ s0 : Int32, b01 s0 → (s0 = 1 ↔ eqv D (cc (u1 x) y) (cc (u1 i) c)) → QW (d + 1) mPg_columnFits 87 (lPg_columnFits_87 (qi i) (qi c) (m0 (r1 + 8) (3 * u1 i + c)) (m0 (r2 + 8) (3 * u2 (q i) + c)) (qi x) (qi y) r1 r2) [.int s0] (hpo X mem sw o e) P := by
              intro s0 hb0 hs0
              refine bPg_columnFits_87 hX k1 k2 (qi_inx (by omega) (by omega)) ?_
              rw [Nx, px.1]
              refine cNf_classOf hX k2 hr.2 hf hB px.2.1 hcxb (qcl_i ?_)
              have tl2 : ∀ s1 : Int32, b01 s1 → (s1 = 1 ↔ eqv E (cc (p (u1 x)) y) (cc (p (u1 i)) c)) → QW (d + 1) mPg_columnFits 111 (lPg_columnFits_111 (qi i) (qi c) (m0 (r1 + 8) (3 * u1 i + c)) (m0 (r2 + 8) (3 * u2 (q i) + c)) (qi x) (qi y) r1 r2) [.int s1, .int s0] (hpo X mem sw o e) P := by
                intro s1 hb1 hs1
                have iff : s0 = s1 ↔ (eqv D (cc (u1 x) y) (cc (u1 i) c) ↔ eqv E (cc (p (u1 x)) y) (cc (p (u1 i)) c)) := by
                  rw [← hs0, ← hs1]
                  rcases hb0 with rfl | rfl <;> rcases hb1 with rfl | rfl <;> simp
                refine bPg_columnFits_111 hX k1 k2 (fun zz => ?_) (fun zz => kf (fun w => zz (iff.mpr (w.2 _ _ (lA.2.1 x (by omega)).1 (by omega)))))
                rw [qi_1]
                refine ih2 (y + 1) (by omega) (fun c' hc' => ?_)
                by_cases ec : c' = y
                · subst ec
                  exact iff.mp zz
                · exact hall2 c' (by omega)
              exact bPg_columnFits_101 hX k1 k2 (fun zz => tl2 0 (Or.inl rfl) ⟨fun w => absurd w (by decide), fun w => absurd (eb.mpr w) zz⟩) (fun zz => tl2 1 (Or.inr rfl) ⟨fun _ => eb.mp zz, fun _ => rfl⟩)
            refine cNf_classOf hX k1 hr.1 hf hA (by omega) (by omega) (qcl_i ?_)
            exact bPg_columnFits_77 hX k1 k2 (fun zz => tl 0 (Or.inl rfl) ⟨fun w => absurd w (by decide), fun w => absurd (ea.mpr w) zz⟩) (fun zz => tl 1 (Or.inr rfl) ⟨fun _ => ea.mp zz, fun _ => rfl⟩)
        exact inn (dcl D (u1 x)) 0 (by omega) (fun c' hc' => absurd hc' (by omega))
    exact lp l1 0 .unset (by omega) (Or.inl rfl) (fun x' c' hx' => absurd hx' (by omega))
  · rw [hf _ _ (by omega) (by omega), hf _ _ (by omega) (by omega), key]
    exact w.1
theorem cPg_columnsFit {q p : Nat → Nat} (hX : X.length = 13) (k1 : kNf r1) (k2 : kNf r2) (h : pst mem m0 D E r1 r2 n1 n2 l1 l2 u1 u2 f1 f2) (hp : pok mem D E l1 l2 u1 u2 q p)
    (kt : cft D E p → P (.inl (some (.int 1)), hpo X mem sw o e)) (kf : ¬ cft D E p → P (.inl (some (.int 0)), hpo X mem sw o e)) : QW (d + 2) mPg_columnsFit 0 (qen 5 [.ref 190, .ref r1, .ref r2]) [] (hpo X mem sw o e) P := by
  have h' := h
  obtain ⟨hr, hf, hA, hB, nA, nB, hcat⟩ := h'
  have okA := hA.1
  have lA := hA.2.2.2.2.2.2.2.2.2.2.2.1
  have mA := hA.2.2.2.2.2.2.2.2.2.2.2.2
  have h7 : mem r1 7 = qi l1 := by rw [hf _ _ (by omega) (by omega)]; exact hA.2.2.2.2.2.2.2.2.2.2.1
  have l4 := lft_4 okA lA (Nat.le_refl _)
  have a4 := okA.1.2
  have lp : ∀ f x w4, x + f = l1 → qfr w4 → (∀ x' c, x' < x → c < dcl D (u1 x') → ((∀ v, num D (cc (u1 x') c) v ↔ num E (cc (p (u1 x')) c) v) ∧ ∀ s' c', std D s' → c' < dcl D s' → (eqv D (cc s' c') (cc (u1 x') c) ↔ eqv E (cc (p s') c') (cc (p (u1 x')) c)))) → QW (d + 2) mPg_columnsFit 2 (lPg_columnsFit_2 (qi x) w4 r1 r2) [] (hpo X mem sw o e) P := by
    intro f
    induction f with
    | zero =>
      intro x w4 hx hw4 hall
      have hle : mem r1 7 ≤ qi x := by rw [h7]; exact (qi_le (by omega) (by omega)).mpr (by omega)
      refine bPg_columnsFit_2 hX k1 k2 hw4 (fun _ => kt (fun s c hs hc => ?_)) (fun z => absurd hle z)
      obtain ⟨x', hx', rfl⟩ := lA.2.2.2 s hs.1 hs
      exact hall x' c (by omega) hc
    | succ f ih =>
      intro x w4 hx hw4 hall
      have hle : ¬ mem r1 7 ≤ qi x := by rw [h7]; exact fun z => absurd ((qi_le (by omega) (by omega)).mp z) (by omega)
      refine bPg_columnsFit_2 hX k1 k2 hw4 (fun z => absurd z hle) (fun _ => ?_)
      have Nx : Int32.toNatClampNeg (qi x) = x := qi_N (by omega)
      have sx := (lA.2.1 x (by omega)).1
      have rx := (okA.2.2.2.1 _ sx.1).1
      have e6 : mem (r1 + 6) (Int32.toNatClampNeg (qi x)) = qi (dcl D (u1 x)) := by rw [Nx, hf _ _ (by omega) (by omega)]; exact (mA x (by omega)).2.2
      have inn : ∀ g y, y + g = dcl D (u1 x) → (∀ c, c < y → ((∀ v, num D (cc (u1 x) c) v ↔ num E (cc (p (u1 x)) c) v) ∧ ∀ s' c', std D s' → c' < dcl D s' → (eqv D (cc s' c') (cc (u1 x) c) ↔ eqv E (cc (p s') c') (cc (p (u1 x)) c)))) → QW (d + 2) mPg_columnsFit 13 (lPg_columnsFit_13 (qi x) (qi y) r1 r2) [] (hpo X mem sw o e) P := by
        intro g
        induction g with
        | zero =>
          intro y hy hall2
          have hle : mem (r1 + 6) (Int32.toNatClampNeg (qi x)) ≤ qi y := by rw [e6]; exact (qi_le (by omega) (by omega)).mpr (by omega)
          refine bPg_columnsFit_13 hX k1 k2 (qi_inx (by omega) (by omega)) (fun _ => ?_) (fun z => absurd hle z)
          rw [qi_1]
          refine ih (x + 1) _ (by omega) (Or.inr (Or.inl ⟨_, rfl⟩)) (fun x' c' hx' hc' => ?_)
          by_cases ex : x' = x
          · subst ex
            exact hall2 c' (by omega)
          · exact hall x' c' (by omega) hc'
        | succ g ih2 =>
          intro y hy hall2
          have hle : ¬ mem (r1 + 6) (Int32.toNatClampNeg (qi x)) ≤ qi y := by rw [e6]; exact fun z => absurd ((qi_le (by omega) (by omega)).mp z) (by omega)
          refine bPg_columnsFit_13 hX k1 k2 (qi_inx (by omega) (by omega)) (fun z => absurd z hle) (fun _ => ?_)
          refine cPg_columnFits hX k1 k2 h hp (by omega) (by omega) (fun w => qcl_i (bPg_columnsFit_33 hX k1 k2 (fun _ => ?_) (fun z => absurd z (by decide)))) (fun w => qcl_i (bPg_columnsFit_33 hX k1 k2 (fun z => absurd rfl z) (fun _ => kf (fun z => w (z _ _ sx (by omega))))))
          rw [qi_1]
          refine ih2 (y + 1) (by omega) (fun c' hc' => ?_)
          by_cases ec : c' = y
          · subst ec
            exact w
          · exact hall2 c' (by omega)
      exact inn (dcl D (u1 x)) 0 (by omega) (fun c' hc' => absurd hc' (by omega))
  exact bPg_columnsFit_0 hX k1 k2 (lp l1 0 .unset (by omega) (Or.inl rfl) (fun x' c' hx' => absurd hx' (by omega)))
theorem cPg_arePaired {q p : Nat → Nat} {a b : Nat} (hX : X.length = 13) (k1 : kNf r1) (k2 : kNf r2) (h : pst mem m0 D E r1 r2 n1 n2 l1 l2 u1 u2 f1 f2) (hp : pok mem D E l1 l2 u1 u2 q p) (hcf : cft D E p) (ha : nd D n1 a) (hb : nd E n2 b)
    (kt : gw D E p (cdn (nuv m0 r1) a) (cdn (nuv m0 r2) b) → P (.inl (some (.int 1)), hpo X mem sw o e)) (kf : ¬ gw D E p (cdn (nuv m0 r1) a) (cdn (nuv m0 r2) b) → P (.inl (some (.int 0)), hpo X mem sw o e)) :
    QW (d + 1) mPg_arePaired 0 (qen 7 [.ref 190, .int (m0 (r1 + 8) a), .int (m0 (r2 + 8) b), .ref r1, .ref r2]) [] (hpo X mem sw o e) P := by
  obtain ⟨hr, hf, hA, hB, nA, nB, hcat⟩ := h
  have okA := hA.1
  have okB := hB.1
  have fA := hA.2.2.1
  have fB := hB.2.2.1
  have lA := hA.2.2.2.2.2.2.2.2.2.2.2.1
  have lB := hB.2.2.2.2.2.2.2.2.2.2.2.1
  have mA := hA.2.2.2.2.2.2.2.2.2.2.2.2
  have h7 : mem r1 7 = qi l1 := by rw [hf _ _ (by omega) (by omega)]; exact hA.2.2.2.2.2.2.2.2.2.2.1
  have cA := (hA.2.2.2.2.2.2.2.2.2.1 nA).1
  have cB := (hB.2.2.2.2.2.2.2.2.2.1 nB).1
  have l4 := lft_4 okA lA (Nat.le_refl _)
  have l4' := lft_4 okB lB (Nat.le_refl _)
  have a4 := okA.1.2
  have b4 := okB.1.2
  have la := nd_lt okA ha
  have lb := nd_lt okB hb
  have n15 := hA.2.1
  have n15' := hB.2.1
  have eA : ¬ Em1 D := fun z => nA (Or.inl z)
  have eB : ¬ Em1 E := fun z => nB (Or.inl z)
  obtain ⟨ia, hia, ga⟩ := hA.2.2.2.1 a (by omega)
  obtain ⟨ib, hib, gb⟩ := hB.2.2.2.1 b (by omega)
  have xa : inx (m0 (r1 + 8) a) 27 := by rw [ga]; exact qi_inx (by omega) (by omega)
  have xb : inx (m0 (r2 + 8) b) 27 := by rw [gb]; exact qi_inx (by omega) (by omega)
  have key := cn_iff eA eB cA cB ha hb
  have zA := cn_no cA ha
  have zB := cn_no cB hb
  have ra : ∀ x, mem (r1 + 9) x = m0 (r1 + 9) x := fun x => hf _ _ (by omega) (by omega)
  have rb : ∀ x, mem (r2 + 9) x = m0 (r2 + 9) x := fun x => hf _ _ (by omega) (by omega)
  -- one of them has a number
  have num1 : ((∃ v, num D (cdn (nuv m0 r1) a) v) ∨ ∃ v, num E (cdn (nuv m0 r2) b) v) → QW (d + 1) mPg_arePaired 25 (lPg_arePaired_25 (m0 (r1 + 8) a) (m0 (r2 + 8) b) r1 r2) [] (hpo X mem sw o e) P := by
    intro hn
    refine bPg_arePaired_25 hX k1 k2 xa xb (fun z => kf (fun w => z ?_)) (fun z => kt ?_)
    · rw [ra, rb, key]
      rcases w with ⟨v, w1, w2⟩ | ⟨w1, w2, -⟩
      · intro v'
        exact ⟨fun w => by rw [num_u eA w w1]; exact w2, fun w => by rw [num_u eB w w2]; exact w1⟩
      · rcases hn with ⟨v, hv⟩ | ⟨v, hv⟩
        · exact absurd hv (w1 v)
        · exact absurd hv (w2 v)
    · rw [ra, rb, key] at z
      rcases hn with ⟨v, hv⟩ | ⟨v, hv⟩
      · exact Or.inl ⟨v, hv, (z v).mp hv⟩
      · exact Or.inl ⟨v, (z v).mpr hv, hv⟩
  refine bPg_arePaired_0 hX k1 k2 xa (fun z => num1 (Or.inl (Classical.byContradiction fun w => z ?_))) (fun _ => xb) (fun z1 z2 => ?_) (fun z1 z2 => num1 (Or.inr (Classical.byContradiction fun w => z2 ?_)))
  · rw [ra, zA]; exact fun v hv => w ⟨v, hv⟩
  · rw [ra, zA] at z1
    rw [rb, zB] at z2
    have lp : ∀ f x w6, x + f = l1 → qfr w6 → (∀ x' c, x' < x → c < dcl D (u1 x') → ¬ eqv D (cc (u1 x') c) (cdn (nuv m0 r1) a)) → QW (d + 1) mPg_arePaired 50 (lPg_arePaired_50 (m0 (r1 + 8) a) (m0 (r2 + 8) b) (qi x) w6 r1 r2) [] (hpo X mem sw o e) P := by
      intro f
      induction f with
      | zero =>
        intro x w6 hx hw6 hall
        have hle : mem r1 7 ≤ qi x := by rw [h7]; exact (qi_le (by omega) (by omega)).mpr (by omega)
        refine bPg_arePaired_50 hX k1 k2 hw6 (fun _ => kf (fun w => ?_)) (fun z => absurd hle z)
        rcases w with ⟨v, w1, w2⟩ | ⟨w1, w2, s, c, hs, hc, w3, w4⟩
        · exact z1 v w1
        · obtain ⟨x', hx', rfl⟩ := lA.2.2.2 s hs.1 hs
          exact hall x' c (by omega) hc w3
      | succ f ih =>
        intro x w6 hx hw6 hall
        have hle : ¬ mem r1 7 ≤ qi x := by rw [h7]; exact fun z => absurd ((qi_le (by omega) (by omega)).mp z) (by omega)
        refine bPg_arePaired_50 hX k1 k2 hw6 (fun z => absurd z hle) (fun _ => ?_)
        have Nx : Int32.toNatClampNeg (qi x) = x := qi_N (by omega)
        have px := hp x (by omega)
        have sx := (lA.2.1 x (by omega)).1
        have s2 := (lB.2.1 (q x) px.2.1).1
        have rx := (okA.2.2.2.1 _ sx.1).1
        have hd : dcl D (u1 x) = dcl E (u2 (q x)) := hcat _ _ sx.1 s2.1 (by rw [px.2.2.1]; exact px.2.2.2)
        have e6 : mem (r1 + 6) (Int32.toNatClampNeg (qi x)) = qi (dcl D (u1 x)) := by rw [Nx, hf _ _ (by omega) (by omega)]; exact (mA x (by omega)).2.2
        have inn : ∀ g y, y + g = dcl D (u1 x) → (∀ c, c < y → ¬ eqv D (cc (u1 x) c) (cdn (nuv m0 r1) a)) → QW (d + 1) mPg_arePaired 62 (lPg_arePaired_62 (m0 (r1 + 8) a) (m0 (r2 + 8) b) (qi x) (qi y) r1 r2) [] (hpo X mem sw o e) P := by
          intro g
          induction g with
          | zero =>
            intro y hy hall2
            have hle : mem (r1 + 6) (Int32.toNatClampNeg (qi x)) ≤ qi y := by rw [e6]; exact (qi_le (by omega) (by omega)).mpr (by omega)
            refine bPg_arePaired_62 hX k1 k2 (qi_inx (by omega) (by omega)) (fun _ => ?_) (fun z => absurd hle z)
            rw [qi_1]
            refine ih (x + 1) _ (by omega) (Or.inr (Or.inl ⟨_, rfl⟩)) (fun x' c' hx' hc' => ?_)
            by_cases ex : x' = x
            · subst ex
              exact hall2 c' (by omega)
            · exact hall x' c' (by omega) hc'
          | succ g ih2 =>
            intro y hy hall2
            have hle : ¬ mem (r1 + 6) (Int32.toNatClampNeg (qi x)) ≤ qi y := by rw [e6]; exact fun z => absurd ((qi_le (by omega) (by omega)).mp z) (by omega)
            refine bPg_arePaired_62 hX k1 k2 (qi_inx (by omega) (by omega)) (fun z => absurd z hle) (fun _ => ?_)
            have na := nd_col okA (nn := n1) (nu := nuv m0 r1) sx.1 (show y < dcl D (u1 x) by omega)
            have nb := nd_col okB (nn := n2) (nu := nuv m0 r2) s2.1 (show y < dcl E (u2 (q x)) by omega)
            have ea := fA.2.2 _ _ na.1 ha
            have eb := fB.2.2 _ _ nb.1 hb
            rw [na.2] at ea
            rw [nb.2, px.2.2.1] at eb
            refine cNf_classOf hX k1 hr.1 hf hA (by omega) (by omega) (qcl_i ?_)
            refine bPg_arePaired_82 hX k1 k2 (fun z => ?_) (fun _ => qi_inx (by omega) (by omega)) (fun z => ?_)
            · rw [qi_1]
              refine ih2 (y + 1) (by omega) (fun c' hc' => ?_)
              by_cases ec : c' = y
              · subst ec
                exact fun w => z (ea.mpr w)
              · exact hall2 c' (by omega)
            · have z := ea.mp z
              rw [Nx, px.1]
              refine cNf_classOf hX k2 hr.2 hf hB px.2.1 (by omega) (qcl_i ?_)
              rw [px.2.2.1] at *
              refine bPg_arePaired_100 hX k1 k2 (fun w => kf (fun gg => w (eb.mpr ?_))) (fun w => kt (Or.inr ⟨z1, z2, u1 x, y, sx, by omega, z, eb.mp w⟩))
              rcases gg with ⟨v, w1, w2⟩ | ⟨w1, w2, s, c, hs, hc, w3, w4⟩
              · exact absurd w1 (z1 v)
              · have := ((hcf (u1 x) y sx (by omega)).2 s c hs hc).mp (eqv_t w3 (eqv_s z))
                exact eqv_t (eqv_s this) w4
        exact inn (dcl D (u1 x)) 0 (by omega) (fun c' hc' => absurd hc' (by omega))
    exact lp l1 0 .unset (by omega) (Or.inl rfl) (fun x' c' hx' => absurd hx' (by omega))
  · rw [rb, zB]; exact fun v hv => w ⟨v, hv⟩
end PG1
