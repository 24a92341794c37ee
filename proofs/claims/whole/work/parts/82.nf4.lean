section NF4
variable {d : Nat} {P : qE → Prop} {X : qH} {sw : Bool} {o : Int64} {e : List Nat} {mem m0 : Nat → Nat → Int32} {t B nn : Nat} {D : qD}
theorem cNf_findOutputs (hX : X.length = 13) (ht : kNf t) (hB : kBl B) (h : nst mem m0 t B nn D)
    (k : ∀ m', (∀ j q, ¬ (j = t ∧ q = 2) → j ≠ t + 1 → m' j q = mem j q) → m' t 2 = qi (dno D) → (∀ i, i < dno D → ∃ a, nd D nn a ∧ cdn (nuv mem t) a = dou D i ∧ m' (t + 1) i = mem (t + 8) a) → P (.inl none, hpo X m' sw o e)) : QW (d + 2) mNf_findOutputs 0 (qen 3 [.ref t, .ref B]) [] (hpo X mem sw o e) P := by
  have hb := h.1
  have ok := hb.1
  have hBt := h.2.1
  have q3 := ok.2.2.1.2
  have lp : ∀ f i m, i + f = dno D → (∀ j q, ¬ (j = t ∧ q = 2) → j ≠ t + 1 → m j q = mem j q) → m t 2 = qi (dno D) → (∀ i1, i1 < i → ∃ a, nd D nn a ∧ cdn (nuv mem t) a = dou D i1 ∧ m (t + 1) i1 = mem (t + 8) a) → QW (d + 2) mNf_findOutputs 10 (lNf_findOutputs_10 (qi i) t B) [] (hpo X m sw o e) P := by
    intro f
    induction f with
    | zero =>
      intro i m hi hfr h2 hE
      have hle : m t 2 ≤ qi i := by rw [h2]; exact (qi_le (by omega) (by omega)).mpr (by omega)
      exact bNf_findOutputs_10 hX ht hB (fun _ => k m hfr h2 (fun i1 hi1 => hE i1 (by omega))) (fun z => absurd hle z)
    | succ f ih =>
      intro i m hi hfr h2 hE
      have hn : nst m m0 t B nn D := nst_to h (hfr _ _ (by omega) (by omega)) (fun q => hfr _ _ (by omega) (by omega)) (fun j q hj => hfr _ _ (by omega) (by omega))
      have hnu : nuv m t = nuv mem t := by
        funext x
        unfold nuv
        rw [hfr _ _ (by omega) (by omega)]
      have hle : ¬ m t 2 ≤ qi i := by rw [h2]; exact fun z => absurd ((qi_le (by omega) (by omega)).mp z) (by omega)
      refine bNf_findOutputs_10 hX ht hB (fun z => absurd z hle) (fun _ => ?_)
      refine cNf_classOfSlot hX ht hB hn (by omega) (hb.2.2.2.2.2.1 i (by omega)) (ok_o ok (by omega)) (fun a ha ea => qcl_i ?_)
      rw [hnu] at ea
      refine bNf_findOutputs_29 hX ht hB (qi_inx (by omega) (by omega)) ?_
      rw [qi_N (by omega), qi_1]
      refine ih (i + 1) _ (by omega) (fun j q a1 a2 => by rw [mup_ce a2]; exact hfr j q a1 a2) (by rw [mup_ce (by omega)]; exact h2) (fun i1 hi1 => ?_)
      by_cases e1 : i1 = i
      · subst e1
        exact ⟨a, ha, ea, by rw [mup_at]; exact hfr _ _ (by omega) (by omega)⟩
      · rw [mup_sl e1]
        exact hE i1 (by omega)
  refine bNf_findOutputs_0 hX ht hB (lp (dno D) 0 _ (by omega) (fun j q a1 a2 => by rw [mup_q, if_neg a1]) ?_ (fun i1 hi1 => absurd hi1 (by omega)))
  rw [mup_at, h.2.2.2.1 _ _ (by omega)]
  exact hb.2.1
theorem cNf_isOneWithLeft {a lc : Nat} {l : Nat → Nat} (hX : X.length = 13) (ht : kNf t) (hB : kBl B) (h : nst mem m0 t B nn D) (hf : frm D nn (nuv mem t) (mem (t + 8))) (ha : a < dns D) (h7 : mem t 7 = qi lc) (hl : lft D a lc l) (hm : ∀ i, i < lc → mem (t + 4) i = qi (l i))
    (k1 : ¬ std D a → P (.inl (some (.int 1)), hpo X mem sw o e)) (k0 : std D a → P (.inl (some (.int 0)), hpo X mem sw o e)) : QW (d + 1) mNf_isOneWithLeft 0 (qen 5 [.ref t, .int (qi a), .ref B, .ref 14]) [] (hpo X mem sw o e) P := by
  have ok := h.1.1
  have q4 := ok.1.2
  have hlc : lc ≤ a := by rw [hl.1]; exact ctS_le D a
  have lp : ∀ f i, i + f = lc → (∀ i1, i1 < i → ¬ one D (l i1) a) → QW (d + 1) mNf_isOneWithLeft 3 (lNf_isOneWithLeft_3 (qi a) (qi i) t B) [] (hpo X mem sw o e) P := by
    intro f
    induction f with
    | zero =>
      intro i hi hno
      have hle : mem t 7 ≤ qi i := by rw [h7]; exact (qi_le (by omega) (by omega)).mpr (by omega)
      refine bNf_isOneWithLeft_3 hX ht hB (fun _ => k0 ⟨ha, fun r hr ho => ?_⟩) (fun z => absurd hle z) (fun z => absurd hle z)
      obtain ⟨p, p1, p2, p3⟩ := one_std ok r (by omega)
      obtain ⟨i1, hi1, el⟩ := hl.2.2.2 p (by omega) p2
      refine hno i1 (by omega) ?_
      rw [el]
      rcases p3 with p3 | p3
      · rw [p3]; exact ho
      · exact one_t ok (by omega) (by omega) p3 ho
    | succ f ih =>
      intro i hi hno
      have hle : ¬ mem t 7 ≤ qi i := by rw [h7]; exact fun z => absurd ((qi_le (by omega) (by omega)).mp z) (by omega)
      refine bNf_isOneWithLeft_3 hX ht hB (fun z => absurd z hle) (fun _ => qi_inx (by omega) (by omega)) (fun _ => ?_)
      have hli := hl.2.1 i (by omega)
      rw [qi_N (by omega), hm i (by omega)]
      refine cNf_areOne hX ht hB h (by omega) ha (fun ho => qcl_i (bNf_isOneWithLeft_26 hX ht hB (fun z => absurd z (by decide)) (fun _ => k1 (fun q => ?_)))) (fun ho => qcl_i (bNf_isOneWithLeft_26 hX ht hB (fun _ => ?_) (fun z => absurd rfl z)))
      · exact q.2 (l i) hli.2 ((frm_one ok hf (by omega) ha).mp ho)
      · rw [qi_1]
        refine ih (i + 1) (by omega) (fun i1 hi1 => ?_)
        by_cases e1 : i1 = i
        · rw [e1]
          exact fun q => ho ((frm_one ok hf (by omega) ha).mpr q)
        · exact hno i1 (by omega)
  exact bNf_isOneWithLeft_0 hX ht hB (lp lc 0 (by omega) (fun i1 hi1 => absurd hi1 (by omega)))
theorem lft_no {n lc : Nat} {l : Nat → Nat} (h : lft D n lc l) (hs : ¬ std D n) : lft D (n + 1) lc l := by
  refine ⟨?_, fun i hi => ⟨(h.2.1 i hi).1, by have := (h.2.1 i hi).2; omega⟩, h.2.2.1, fun s hs1 hs2 => ?_⟩
  · show lc = ctS D n + ind (std D n)
    rw [ind_f hs, h.1, Nat.add_zero]
  · by_cases e1 : s = n
    · rw [e1] at hs2
      exact absurd hs2 hs
    · exact h.2.2.2 s (by omega) hs2
theorem lft_yes {n lc : Nat} {l : Nat → Nat} (h : lft D n lc l) (hs : std D n) : lft D (n + 1) (lc + 1) (fun i => if i = lc then n else l i) := by
  refine ⟨?_, fun i hi => ?_, fun i j hij hj => ?_, fun s hs1 hs2 => ?_⟩
  · show lc + 1 = ctS D n + ind (std D n)
    rw [ind_t hs, h.1]
  · by_cases e1 : i = lc
    · simp only [if_pos e1]; exact ⟨hs, by omega⟩
    · simp only [if_neg e1]
      have := h.2.1 i (by omega)
      exact ⟨this.1, by omega⟩
  · have e1 : ¬ i = lc := by omega
    by_cases e2 : j = lc
    · simp only [if_neg e1, if_pos e2]; exact (h.2.1 i (by omega)).2
    · simp only [if_neg e1, if_neg e2]; exact h.2.2.1 i j hij (by omega)
  · by_cases e1 : s = n
    · exact ⟨lc, by omega, by simp [e1]⟩
    · obtain ⟨i, hi, q⟩ := h.2.2.2 s (by omega) hs2
      have e2 : ¬ i = lc := by omega
      exact ⟨i, by omega, by simp only [if_neg e2]; exact q⟩
theorem cNf_findLeft (hX : X.length = 13) (ht : kNf t) (hB : kBl B) (h : nst mem m0 t B nn D) (hf : frm D nn (nuv mem t) (mem (t + 8)))
    (k : ∀ m' lc l, (∀ j q, ¬ (j = t ∧ q = 7) → ¬ (t + 4 ≤ j ∧ j < t + 7) → m' j q = mem j q) → m' t 7 = qi lc → lft D (dns D) lc l → (∀ i, i < lc → m' (t + 4) i = qi (l i) ∧ m' (t + 5) i = qi (dtb D (l i)) ∧ m' (t + 6) i = qi (dcl D (l i))) → P (.inl none, hpo X m' sw o e)) : QW (d + 2) mNf_findLeft 0 (qen 4 [.ref t, .ref B, .ref 14]) [] (hpo X mem sw o e) P := by
  have hb := h.1
  have ok := hb.1
  have hBt := h.2.1
  have h27 := h.2.2.1
  have q4 := ok.1.2
  have lp : ∀ f s m lc l, s + f = dns D → (∀ j q, ¬ (j = t ∧ q = 7) → ¬ (t + 4 ≤ j ∧ j < t + 7) → m j q = mem j q) → m t 7 = qi lc → lft D s lc l → (∀ i, i < lc → m (t + 4) i = qi (l i) ∧ m (t + 5) i = qi (dtb D (l i)) ∧ m (t + 6) i = qi (dcl D (l i))) → QW (d + 2) mNf_findLeft 7 (lNf_findLeft_7 (qi s) t B) [] (hpo X m sw o e) P := by
    intro f
    induction f with
    | zero =>
      intro s m lc l hs hfr h7 hl hm
      obtain rfl : s = dns D := by omega
      have hle : m B 2 ≤ qi (dns D) := by rw [hfr _ _ (by omega) (by omega), h.2.2.2.1 _ _ (by omega), hb.2.2.1]; exact Int32.le_refl _
      exact bNf_findLeft_7 hX ht hB (fun _ => k m lc l hfr h7 hl hm) (fun z => absurd hle z)
    | succ f ih =>
      intro s m lc l hs hfr h7 hl hm
      have hn : nst m m0 t B nn D := nst_to h (hfr _ _ (by omega) (by omega)) (fun q => hfr _ _ (by omega) (by omega)) (fun j q hj => hfr _ _ (by omega) (by omega))
      have hfr0 := hn.2.2.2.1
      have hnu : nuv m t = nuv mem t := by
        funext x
        unfold nuv
        rw [hfr _ _ (by omega) (by omega)]
      have e8 : m (t + 8) = mem (t + 8) := funext fun x => hfr _ _ (by omega) (by omega)
      have hle : ¬ m B 2 ≤ qi s := by rw [hfr0 _ _ (by omega), hb.2.2.1]; exact fun z => absurd ((qi_le (by omega) (by omega)).mp z) (by omega)
      have hlc : lc ≤ s := by rw [hl.1]; exact ctS_le D s
      refine bNf_findLeft_7 hX ht hB (fun z => absurd z hle) (fun _ => ?_)
      refine cNf_isOneWithLeft hX ht hB hn (by rw [hnu, e8]; exact hf) (by omega) h7 hl (fun i hi => (hm i hi).1) (fun hst => qcl_i (bNf_findLeft_22 hX ht hB (fun _ => ?_) (fun z => absurd z (by decide)) (fun z => absurd z (by decide)) (fun z => absurd z (by decide)) (fun z => absurd z (by decide)) (fun z => absurd z (by decide)) (fun z => absurd z (by decide)) (fun z => absurd z (by decide)))) (fun hst => qcl_i ?_)
      · rw [qi_1]
        exact ih (s + 1) m lc l (by omega) hfr h7 (lft_no hl hst) hm
      · have tsb := hb.2.2.2.2.1 s (by omega)
        have rs := ok.2.2.2.1 s (by omega)
        have Ns : Int32.toNatClampNeg (qi s) = s := qi_N (by omega)
        have Nl : Int32.toNatClampNeg (qi lc) = lc := qi_N (by omega)
        have Nt : Int32.toNatClampNeg (qi (dtb D s)) = dtb D s := qi_N (by omega)
        have et : ∀ x y, (mup m (t + 4) x y) (B + 1) s = qi (dtb D s) := fun x y => by rw [mup_ce (by omega), hfr0 _ _ (by omega)]; exact tsb.1
        have et2 : ∀ x y x' y', (mup (mup m (t + 4) x y) (t + 5) x' y') (B + 1) s = qi (dtb D s) := fun x y x' y' => by rw [mup_ce (by omega), et]
        have e71 : ∀ x y, (mup m (t + 4) x y) t 7 = qi lc := fun x y => by rw [mup_ce (by omega), h7]
        have e72 : ∀ x y x' y', (mup (mup m (t + 4) x y) (t + 5) x' y') t 7 = qi lc := fun x y x' y' => by rw [mup_ce (by omega), e71]
        have e73 : ∀ x y x' y' x2 y2, (mup (mup (mup m (t + 4) x y) (t + 5) x' y') (t + 6) x2 y2) t 7 = qi lc := fun x y x' y' x2 y2 => by rw [mup_ce (by omega), e72]
        have ec : ∀ x y x' y', (mup (mup m (t + 4) x y) (t + 5) x' y') (16 + 3 * dtb D s) 0 = qi (dcl D s) := fun x y x' y' => by rw [mup_ce (by omega), mup_ce (by omega), hfr0 _ _ (by omega)]; exact tsb.2.1
        have his : inx (qi s) 4 := qi_inx (by omega) (by omega)
        have hil : inx (qi lc) 4 := qi_inx (by omega) (by omega)
        refine bNf_findLeft_22 hX ht hB (fun z => absurd rfl z) (fun _ => by rw [h7]; exact hil) (fun _ => his) (fun _ => by rw [e71]; exact hil) (fun _ => his) (fun _ => by rw [Ns, et2]; exact qi_inx (by omega) (by omega)) (fun _ => by rw [e72]; exact hil) (fun _ => ?_)
        rw [e73, e72, e71, h7, Nl, Ns, et2, et, Nt, ec, qi_1, qi_1]
        refine ih (s + 1) _ (lc + 1) _ (by omega) (fun j q a1 a2 => ?_) (by rw [mup_at]) (lft_yes hl hst) (fun i hi => ?_)
        · (repeat (rw [mup_q]; first | rw [if_pos (by omega)] | rw [if_neg (by omega)]))
          exact hfr j q a1 a2
        · by_cases e1 : i = lc
          · subst e1
            simp only [if_true]
            refine ⟨?_, ?_, ?_⟩
            · (repeat (rw [mup_q]; first | rw [if_pos (by omega)] | rw [if_neg (by omega)]))
            · (repeat (rw [mup_q]; first | rw [if_pos (by omega)] | rw [if_neg (by omega)]))
            · (repeat (rw [mup_q]; first | rw [if_pos (by omega)] | rw [if_neg (by omega)]))
          · simp only [if_neg e1]
            obtain ⟨g1, g2, g3⟩ := hm i (by omega)
            refine ⟨?_, ?_, ?_⟩
            · (repeat (rw [mup_q]; first | rw [if_pos (by omega)] | rw [if_neg (by omega)]))
              exact g1
            · (repeat (rw [mup_q]; first | rw [if_pos (by omega)] | rw [if_neg (by omega)]))
              exact g2
            · (repeat (rw [mup_q]; first | rw [if_pos (by omega)] | rw [if_neg (by omega)]))
              exact g3
  refine bNf_findLeft_0 hX ht hB (lp (dns D) 0 _ 0 (fun _ => 0) (by omega) (fun j q a1 a2 => by rw [mup_q, if_neg a1]) (by rw [mup_at]; rfl) ⟨rfl, fun i hi => absurd hi (by omega), fun i j _ hj => absurd hj (by omega), fun s hs => absurd hs (by omega)⟩ (fun i hi => absurd hi (by omega)))
theorem cst_0 (ok : okD D) {nu g : Nat → Int32} (hn : nn ≤ 15) (hg : ∀ x, x < 27 → g x = qi x) : cst D nn nu g := by
  have q4 := ok.1.2
  refine ⟨fun a b ha hb hab => ?_, fun a ha => ⟨a, ha, hg a ha⟩, fun a s c ha hs hc hc3 hq => ?_⟩
  · have := nd_lt ok ha
    have := nd_lt ok hb
    rw [hg a (by omega), hg b (by omega)] at hab
    rw [qi_inj (by omega) (by omega) hab]
    exact eqv_r _
  · have := nd_lt ok ha
    rw [hg a (by omega), hg _ (by omega)] at hq
    have e1 : a = 3 * s + c := qi_inj (by omega) (by omega) hq
    rcases ha with ⟨s', c', h1, h2, h3⟩ | h1
    · have r1 := (ok.2.2.2.1 s' h1).1
      have : s' = s := by omega
      subst this
      omega
    · omega
theorem cNf_build {sf : Int32} (hX : X.length = 13) (ht : kNf t) (hB : kBl B) (hBt : B + 7 ≤ t) (hB27 : 27 < B) (hb : nbk mem B D) (hs : mem B 0 = sf) (hsf : b01 sf)
    (k : ∀ m' nn lc l, (∀ j q, ¬ (t ≤ j ∧ j < t + 10) → m' j q = mem j q) → nfo D m' t nn lc l sf → P (.inl none, hpo X m' sw o e)) : QW (d + 4) mNf_build 0 (qen 4 [.ref t, .ref B, .ref 14]) [] (hpo X mem sw o e) P := by
  have ok := hb.1
  have e0 : (mup mem t 0 0) B 0 = sf := by rw [mup_ce (by omega)]; exact hs
  refine bNf_build_0 hX ht hB (by rw [e0]; rcases hsf with rfl | rfl <;> rfl) (by rw [e0]; rcases hsf with rfl | rfl <;> rfl) ?_
  rw [e0]
  have hb1 : nbk (mup (mup mem t 0 0) t 1 sf) B D := by
    have z : ∀ j q, j ≠ t → (mup (mup mem t 0 0) t 1 sf) j q = mem j q := fun j q hj => by rw [mup_ce hj, mup_ce hj]
    obtain ⟨b1, b2, b3, b4, b5, b6, b7⟩ := hb
    have sl : ∀ x v, slv2 mem B x v D → slv2 (mup (mup mem t 0 0) t 1 sf) B x v D := by
      intro x v q
      unfold slv2
      rw [z _ _ (by omega), z _ _ (by omega)]
      exact q
    refine ⟨b1, by rw [z _ _ (by omega)]; exact b2, by rw [z _ _ (by omega)]; exact b3, by rw [z _ _ (by omega)]; exact b4, fun s hs' => ?_, fun i hi => sl _ _ (b6 i hi), fun i hi => ⟨sl _ _ (b7 i hi).1, sl _ _ (b7 i hi).2.1, by rw [z _ _ (by omega)]; exact (b7 i hi).2.2⟩⟩
    have := (b1.2.2.2.1 s hs').2
    refine ⟨by rw [z _ _ (by omega)]; exact (b5 s hs').1, by rw [z _ _ (by omega)]; exact (b5 s hs').2.1, fun c hc => ?_⟩
    rw [z _ _ (by omega)]
    exact (b5 s hs').2.2 c hc
  refine cNf_collectNumbers hX ht hB hBt hb1 (fun m1 nn h11 h15 hok hu hf1 => qcl_v (bNf_build_18 hX ht hB ?_))
  have n1 : ∀ m, (∀ j q, j ≠ t + 8 → m j q = m1 j q) → nst m (mup (mup mem t 0 0) t 1 sf) t B nn D := by
    intro m hm
    have : nst m1 (mup (mup mem t 0 0) t 1 sf) t B nn D := ⟨hb1, hBt, hB27, fun j q hj => hf1 j q (by omega) (by omega), h11, h15, hok, hu⟩
    exact nst_to this (hm _ _ (by omega)) (fun q => hm _ _ (by omega)) (fun j q hj => hm _ _ (by omega))
  have lp : ∀ f i m, i + f = 27 → (∀ j q, j ≠ t + 8 → m j q = m1 j q) → (∀ x, x < i → m (t + 8) x = qi x) → QW (d + 4) mNf_build 20 (lNf_build_20 (qi i) t B) [] (hpo X m sw o e) P := by
    intro f
    induction f with
    | succ f ih =>
      intro i m hi hm hx
      refine bNf_build_20 hX ht hB (fun z => absurd ((qi_le (a := 27) (by omega) (by omega)).mp z) (by omega)) (fun _ => qi_inx (by omega) (by omega)) (fun _ => ?_)
      rw [qi_N (by omega), qi_1]
      refine ih (i + 1) _ (by omega) (fun j q hj => by rw [mup_ce hj]; exact hm j q hj) (fun x hx2 => ?_)
      by_cases e1 : x = i
      · rw [e1, mup_at]
      · rw [mup_sl e1]; exact hx x (by omega)
    | zero =>
      intro i m hi hm hx
      obtain rfl : i = 27 := by omega
      have hle : (27 : Int32) ≤ qi 27 := by decide
      refine bNf_build_20 hX ht hB (fun _ => ?_) (fun z => absurd hle z) (fun z => absurd hle z)
      have hn := n1 m hm
      have c0 : cst D nn (nuv m t) (m (t + 8)) := cst_0 ok h15 hx
      refine cNf_joinEqualSides (d := d) hX ht hB hn c0 (fun m2 j2 E2 => qcl_v (bNf_build_44 hX ht hB ?_))
      refine cNf_joinOnes (d := d) hX ht hB (jin_nst hn j2) (by rw [jin_nu j2]; exact j2.2.1) (fun m3 j3 K3 => qcl_v (bNf_build_50 hX ht hB ?_))
      have j23 := jin_t j2 j3
      have hn3 := jin_nst hn j23
      have nu3 := jin_nu j23
      have E3 : ecl D nn (nuv m t) (m3 (t + 8)) := by
        intro i hi hl
        obtain ⟨a, b, q1, q2, q3, q4, q5⟩ := E2 i hi hl
        have := nd_lt ok q1
        have := nd_lt ok q2
        exact ⟨a, b, q1, q2, q3, q4, j3.2.2 a b (by omega) (by omega) q5⟩
      have fr3 : frm D nn (nuv m3 t) (m3 (t + 8)) := by
        rw [nu3]
        refine frm_of ok ?_ ?_ j23.2.1.1 E3 K3
        · have := hn.2.2.2.2.2.2.1; exact this
        · exact hn.2.2.2.2.2.2.2
      have id3 := j23.2.1.2.1
      have z3 : m3 t 0 = 0 := by rw [j23.1 _ _ (by omega), hm _ _ (by omega), hf1 _ _ (by omega) (by omega), mup_sl (by omega), mup_at]
      refine cNf_numberClasses (d := d + 3) hX ht hn3 fr3 id3 z3 (fun m4 f4 g4 c4 => qcl_v (bNf_build_54 hX ht hB ?_))
      have nu4 : nuv m4 t = nuv m3 t := by
        funext x
        unfold nuv
        rw [f4 _ _ (by omega) (by omega)]
      have e84 : m4 (t + 8) = m3 (t + 8) := funext fun x => f4 _ _ (by omega) (by omega)
      have hn4 : nst m4 (mup (mup mem t 0 0) t 1 sf) t B nn D := nst_to hn3 (f4 _ _ (by omega) (by omega)) (fun q => f4 _ _ (by omega) (by omega)) (fun j q hj => f4 _ _ (by omega) (by omega))
      refine cNf_findLess (d := d) hX ht hB hn4 (by rw [nu4, e84]; exact fr3) (by rw [e84]; exact id3) g4 (fun hE => by rw [nu4, e84]; exact c4 hE) (fun m5 f5 b5 g5 c5 => qcl_v (bNf_build_59 hX ht hB ?_))
      have hn5 : nst m5 (mup (mup mem t 0 0) t 1 sf) t B nn D := nst_to hn4 (f5 _ _ (by omega) (by omega) (by omega)) (fun q => f5 _ _ (by omega) (by omega) (by omega)) (fun j q hj => f5 _ _ (by omega) (by omega) (by omega))
      refine cNf_findOutputs (d := d + 1) hX ht hB hn5 (fun m6 f6 g6 c6 => qcl_v (bNf_build_64 hX ht hB ?_))
      have hn6 : nst m6 (mup (mup mem t 0 0) t 1 sf) t B nn D := nst_to hn5 (f6 _ _ (by omega) (by omega)) (fun q => f6 _ _ (by omega) (by omega)) (fun j q hj => f6 _ _ (by omega) (by omega))
      have nu6 : nuv m6 t = nuv m3 t := by
        funext x
        unfold nuv
        rw [f6 _ _ (by omega) (by omega), f5 _ _ (by omega) (by omega) (by omega), f4 _ _ (by omega) (by omega)]
      have e86 : m6 (t + 8) = m3 (t + 8) := funext fun x => by rw [f6 _ _ (by omega) (by omega), f5 _ _ (by omega) (by omega) (by omega), f4 _ _ (by omega) (by omega)]
      refine cNf_findLeft (d := d + 1) hX ht hB hn6 (by rw [nu6, e86]; exact fr3) (fun m7 lc l f7 g7 c7 d7 => qcl_v (bNf_build_70 hX ht hB ?_))
      have nu7 : nuv m7 t = nuv m3 t := by
        rw [← nu6]
        funext x
        unfold nuv
        rw [f7 _ _ (by omega) (by omega)]
      have e87 : m7 (t + 8) = m3 (t + 8) := by
        rw [← e86]
        exact funext fun x => f7 _ _ (by omega) (by omega)
      have nu5 : nuv m5 t = nuv m3 t := by
        rw [← nu4]
        funext x
        unfold nuv
        rw [f5 _ _ (by omega) (by omega) (by omega)]
      have e85 : m5 (t + 8) = m3 (t + 8) := by
        rw [← e84]
        exact funext fun x => f5 _ _ (by omega) (by omega) (by omega)
      have e97 : m7 (t + 9) = m4 (t + 9) := funext fun x => by rw [f7 _ _ (by omega) (by omega), f6 _ _ (by omega) (by omega), f5 _ _ (by omega) (by omega) (by omega)]
      have b7 : ∀ j q, ¬ (j = t ∧ (q = 7 ∨ q = 2)) → ¬ (t + 4 ≤ j ∧ j < t + 7) → j ≠ t + 1 → m7 j q = m5 j q := fun j q a1 a2 a3 => by rw [f7 _ _ (by omega) a2, f6 _ _ (by omega) a3]
      refine k m7 nn lc l (fun j q hj => ?_) ⟨ok, h15, by rw [nu7, e87]; exact fr3, by rw [e87]; exact id3, ?_, ?_, ?_, ?_, fun i hi => ?_, fun hE => ⟨?_, ?_⟩, g7, c7, d7⟩
      · rw [f7 _ _ (by omega) (by omega), f6 _ _ (by omega) (by omega), f5 _ _ (by omega) (by omega) (by omega), f4 _ _ (by omega) (by omega), j23.1 _ _ (by omega), hm _ _ (by omega), hf1 _ _ (by omega) (by omega), mup_ce (by omega), mup_ce (by omega)]
      · rw [b7 _ _ (by omega) (by omega) (by omega)]; exact b5
      · rw [b7 _ _ (by omega) (by omega) (by omega)]; exact g5
      · rw [b7 _ _ (by omega) (by omega) (by omega), f5 _ _ (by omega) (by omega) (by omega), f4 _ _ (by omega) (by omega), j23.1 _ _ (by omega), hm _ _ (by omega), hf1 _ _ (by omega) (by omega), mup_at]
      · rw [f7 _ _ (by omega) (by omega)]; exact g6
      · obtain ⟨a, q1, q2, q3⟩ := c6 i hi
        exact ⟨a, q1, by rw [nu7, ← nu5]; exact q2, by rw [f7 _ _ (by omega) (by omega), e87, ← e85]; exact q3⟩
      · have := (c4 (fun q => hE (Or.inl q))).2
        rw [nu7, e87, e97]
        exact this
      · obtain ⟨q, w1, w2, w3⟩ := c5 hE
        refine ⟨q, by rw [b7 _ _ (by omega) (by omega) (by omega)]; exact w1, w2, ?_⟩
        have x2 : ∀ x, m7 (t + 2) x = m5 (t + 2) x := fun x => b7 _ _ (by omega) (by omega) (by omega)
        have x3 : ∀ x, m7 (t + 3) x = m5 (t + 3) x := fun x => b7 _ _ (by omega) (by omega) (by omega)
        have nu75 : nuv m7 t = nuv m5 t := by rw [nu7, nu5]
        have e875 : m7 (t + 8) = m5 (t + 8) := by rw [e87, e85]
        unfold lef
        simp only [nu75, e875, x2, x3]
        exact w3
  exact lp 27 0 m1 (by omega) (fun _ _ _ => rfl) (fun x hx => absurd hx (by omega))
end NF4
