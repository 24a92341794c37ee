/-- each source's stand-in: one before it or itself, that it is one with -/
def stv (D : qD) (st : Nat → Nat) : Prop := ∀ s, s < dns D → st s ≤ s ∧ st (st s) = st s ∧ (s = st s ∨ one D s (st s))
def rst (st : Nat → Nat) (s r : Nat) : Nat → Nat := fun k => if st k = (if st r ≤ st s then st s else st r) then (if st r ≤ st s then st r else st s) else st k
section MF2
variable {d : Nat} {P : qE → Prop} {X : qH} {sw : Bool} {o : Int64} {e : List Nat} {mem m0 : Nat → Nat → Int32} {z mb nn : Nat} {D : qD} {st : Nat → Nat}
theorem jj_t (ok : okD D) {a b c : Nat} (ha : a < dns D) (hb : b < dns D) (h1 : a = b ∨ one D a b) (h2 : b = c ∨ one D b c) : a = c ∨ one D a c := by
  rcases h1 with rfl | h1
  · exact h2
  · rcases h2 with rfl | h2
    · exact Or.inr h1
    · exact Or.inr (one_t ok ha hb h1 h2)
theorem jj_s (ok : okD D) {a b : Nat} (ha : a < dns D) (hb : b < dns D) (h1 : a = b ∨ one D a b) : b = a ∨ one D b a := by
  rcases h1 with rfl | h1
  · exact Or.inl rfl
  · exact Or.inr (one_s ok ha hb h1)
theorem stv_join (ok : okD D) (h : stv D st) {s r : Nat} (hs : s < dns D) (hr : r < dns D) (ho : one D s r) : stv D (rst st s r) := by
  obtain ⟨s1, s2, s3⟩ := h s hs
  obtain ⟨r1, r2, r3⟩ := h r hr
  have pq : st s = st r ∨ one D (st s) (st r) := jj_t ok (by omega) hs (jj_s ok hs (by omega) s3) (jj_t ok hs hr (Or.inr ho) r3)
  have qp := jj_s ok (by omega) (by omega) pq
  intro k hk
  obtain ⟨k1, k2, k3⟩ := h k hk
  unfold rst
  by_cases c1 : st r ≤ st s
  · simp only [if_pos c1]
    by_cases c2 : st k = st s
    · simp only [if_pos c2]
      refine ⟨by omega, ?_, ?_⟩
      · rw [r2]
        by_cases c3 : st r = st s
        · rw [if_pos c3]
        · rw [if_neg c3]
      · rw [c2] at k3
        exact jj_t ok hk (by omega) k3 pq
    · simp only [if_neg c2]
      refine ⟨k1, ?_, k3⟩
      rw [k2, if_neg c2]
  · simp only [if_neg c1]
    by_cases c2 : st k = st r
    · simp only [if_pos c2]
      refine ⟨by omega, ?_, ?_⟩
      · rw [s2]
        by_cases c3 : st s = st r
        · rw [if_pos c3]
        · rw [if_neg c3]
      · rw [c2] at k3
        exact jj_t ok hk (by omega) k3 qp
    · simp only [if_neg c2]
      refine ⟨k1, ?_, k3⟩
      rw [k2, if_neg c2]
theorem rst_sr {s r : Nat} : rst st s r s = rst st s r r := by
  unfold rst
  by_cases c1 : st r ≤ st s
  · simp only [if_pos c1, if_true]
    by_cases c2 : st r = st s
    · rw [if_pos c2]
    · rw [if_neg c2]
  · simp only [if_neg c1, if_true]
    by_cases c2 : st s = st r
    · rw [if_pos c2]
    · rw [if_neg c2]
theorem rst_eq {s r a b : Nat} (h : st a = st b) : rst st s r a = rst st s r b := by unfold rst; rw [h]
theorem mst_to {m m' : Nat → Nat → Int32} (h : mst m m0 z mb nn D) (h1 : m' 221 z = m 221 z) (h2 : ∀ q, 32 * z ≤ q → q < 32 * z + 32 → m' 220 q = m 220 q) (h3 : ∀ j q, ¬ (219 ≤ j ∧ j < 224) → m' j q = m j q) : mst m' m0 z mb nn D := by
  obtain ⟨a1, a2, a3, a4, a5, a6, a7⟩ := h
  have e1 : ∀ i, i < nn → num2 m' z i = num2 m z i := fun i hi => by
    unfold num2
    rw [h2 _ (by omega) (by omega)]
  refine ⟨a1, a2, fun j q hj => by rw [h3 j q hj]; exact a3 j q hj, by rw [h1]; exact a4, a5, ⟨fun i hi => by rw [e1 i hi]; exact a6.1 i hi, fun i j hi hj q => ?_⟩, fun i hi => by rw [e1 i hi]; exact a7 i hi⟩
  rw [e1 i hi, e1 j hj] at q
  exact a6.2 i j hi hj q
theorem cMo_join {s r : Nat} (hX : X.length = 13) (h : mst mem m0 z mb nn D) (hc : mcs D nn (num2 mem z) (grp mem z) z) (hs : s < dns D) (hr : r < dns D) (ho : on1 D (grp mem z) s r) (hst : ∀ k, k < dns D → mem 222 (4 * z + k) = qi (st k) ∧ st k ≤ k)
    (k : ∀ m', (∀ j q, ¬ (j = 219 ∧ 32 * z ≤ q ∧ q < 32 * z + 32) → ¬ (j = 222 ∧ 4 * z ≤ q ∧ q < 4 * z + 4) → m' j q = mem j q) → mcs D nn (num2 mem z) (grp m' z) z → (∀ a b, a < 32 → b < 32 → grp mem z a = grp mem z b → grp m' z a = grp m' z b) → ful D (grp m' z) s r → (ful D (grp mem z) s r → ∀ a, a < 32 → grp m' z a = grp mem z a) → (∀ k, k < dns D → m' 222 (4 * z + k) = qi (rst st s r k)) → P (.inl none, hpo X m' sw o e)) : QW (d + 1) mMo_join 0 (qen 8 [.ref 193, .int (qi z), .int (qi mb), .int (qi s), .int (qi r)]) [] (hpo X mem sw o e) P := by
  have hz := h.1
  have hb := h.2.1
  have hf := h.2.2.1
  have h15 := h.2.2.2.2.1
  have ok := hb.1
  have hmb := hb.2.1
  have q4' := ok.1.2
  have ts := hb.2.2.2.2.2.1 s hs
  have rs := ok.2.2.2.1 s hs
  have hone := snd_one ok hc.1 hs hr ho
  have ecl' := (ok.2.2.2.2.1 s r hs hr ho.1).1
  have Nt : Int32.toNatClampNeg (qi (dtb D s)) = dtb D s := qi_N (by omega)
  have imb : inx (qi mb) 15 := qi_inx hmb (by omega)
  have is8 : inx (4 * qi z + qi s) 8 := by rw [qf4]; exact qi_inx (by omega) (by omega)
  have ir8 : inx (4 * qi z + qi r) 8 := by rw [qf4]; exact qi_inx (by omega) (by omega)
  have is60 : inx (4 * qi mb + qi s) 60 := by rw [qf4]; exact qi_inx (by omega) (by omega)
  have lp : ∀ f c m, c + f = dcl D s → (∀ j q, ¬ (j = 219 ∧ 32 * z ≤ q ∧ q < 32 * z + 32) → m j q = mem j q) → mcs D nn (num2 mem z) (grp m z) z → (∀ a b, a < 32 → b < 32 → grp mem z a = grp mem z b → grp m z a = grp m z b) → (∀ c', c' < c → grp m z (3 * s + c') = grp m z (3 * r + c')) → (ful D (grp mem z) s r → ∀ a, a < 32 → grp m z a = grp mem z a) → QW (d + 1) mMo_join 3 (lMo_join_3 (qi z) (qi mb) (qi s) (qi r) (qi c)) [] (hpo X m sw o e) P := by
    intro f
    induction f with
    | zero =>
      intro c m hcc hfm hcm hpr hfl hsame
      have e5 : m 205 (Int32.toNatClampNeg (4 * qi mb + qi s)) = qi (dtb D s) := by rw [qf4, qi_N (by omega), hfm _ _ (by omega), hf _ _ (by omega)]; exact ts.1
      have e1 : m 194 (Int32.toNatClampNeg (m 205 (Int32.toNatClampNeg (4 * qi mb + qi s)))) = qi (dcl D s) := by rw [e5, Nt, hfm _ _ (by omega), hf _ _ (by omega)]; exact ts.2.1
      have hle : m 194 (Int32.toNatClampNeg (m 205 (Int32.toNatClampNeg (4 * qi mb + qi s)))) ≤ qi c := by rw [e1]; exact (qi_le (by omega) (by omega)).mpr (by omega)
      obtain ⟨ss1, ss2⟩ := hst s hs
      obtain ⟨rr1, rr2⟩ := hst r hr
      have es : m 222 (Int32.toNatClampNeg (4 * qi z + qi s)) = qi (st s) := by rw [qf4, qi_N (by omega), hfm _ _ (by omega)]; exact ss1
      have er : m 222 (Int32.toNatClampNeg (4 * qi z + qi r)) = qi (st r) := by rw [qf4, qi_N (by omega), hfm _ _ (by omega)]; exact rr1
      have ele : (m 222 (Int32.toNatClampNeg (4 * qi z + qi r)) ≤ m 222 (Int32.toNatClampNeg (4 * qi z + qi s))) ↔ st r ≤ st s := by rw [es, er]; exact qi_le (by omega) (by omega)
      -- the stand-ins
      have lp2 : ∀ g x m2 fr to', x + g = dns D → fr = (if st r ≤ st s then st s else st r) → to' = (if st r ≤ st s then st r else st s) → (∀ j q, ¬ (j = 222 ∧ 4 * z ≤ q ∧ q < 4 * z + 4) → m2 j q = m j q) → (∀ k, k < x → m2 222 (4 * z + k) = qi (rst st s r k)) → (∀ k, x ≤ k → k < dns D → m2 222 (4 * z + k) = qi (st k)) → QW (d + 1) mMo_join 160 (lMo_join_160 (qi z) (qi mb) (qi s) (qi r) (qi fr) (qi to') (qi x)) [] (hpo X m2 sw o e) P := by
        intro g
        induction g with
        | zero =>
          intro x m2 fr to' hx hfr hto hfm2 h1 h2
          obtain rfl : x = dns D := by omega
          have e4 : m2 204 (Int32.toNatClampNeg (qi mb)) = qi (dns D) := by rw [qi_N (by omega), hfm2 _ _ (by omega), hfm _ _ (by omega), hf _ _ (by omega)]; exact hb.2.2.2.1
          have hle : m2 204 (Int32.toNatClampNeg (qi mb)) ≤ qi (dns D) := by rw [e4]; exact Int32.le_refl _
          have gg : grp m2 z = grp m z := funext fun a => by unfold grp; rw [hfm2 _ _ (by omega)]
          refine bMo_join_160 hX imb (fun _ => k m2 (fun j q a1 a2 => by rw [hfm2 j q a2, hfm j q a1]) (by rw [gg]; exact hcm) (by rw [gg]; exact hpr) (by rw [gg]; exact fun c' hc' => hfl c' (by omega)) (by rw [gg]; exact hsame) h1) (fun w => absurd hle w) (fun w => absurd hle w) (fun w => absurd hle w) (fun w => absurd hle w)
        | succ g ih2 =>
          intro x m2 fr to' hx hfr hto hfm2 h1 h2
          have e4 : m2 204 (Int32.toNatClampNeg (qi mb)) = qi (dns D) := by rw [qi_N (by omega), hfm2 _ _ (by omega), hfm _ _ (by omega), hf _ _ (by omega)]; exact hb.2.2.2.1
          have hle : ¬ m2 204 (Int32.toNatClampNeg (qi mb)) ≤ qi x := by rw [e4]; exact fun w => absurd ((qi_le (by omega) (by omega)).mp w) (by omega)
          have ix : inx (4 * qi z + qi x) 8 := by rw [qf4]; exact qi_inx (by omega) (by omega)
          have ex : m2 222 (Int32.toNatClampNeg (4 * qi z + qi x)) = qi (st x) := by rw [qf4, qi_N (by omega)]; exact h2 x (Nat.le_refl _) (by omega)
          have hxx := (hst x (by omega)).2
          have hfrb : fr < 4 := by rw [hfr]; split <;> omega
          have htob : to' < 4 := by rw [hto]; split <;> omega
          have tl : ∀ v : Nat, v = rst st s r x → QW (d + 1) mMo_join 213 (lMo_join_213 (qi z) (qi mb) (qi s) (qi r) (qi fr) (qi to') (qi x)) [.int (qi v), .int (4 * qi z + qi x), .ref 222] (hpo X m2 sw o e) P := by
            intro v hv
            refine bMo_join_213 hX ix ?_
            rw [qf4, qi_N (by omega), qi_1]
            refine ih2 (x + 1) _ fr to' (by omega) hfr hto (fun j q a1 => by rw [mup_q, if_neg (by omega)]; exact hfm2 j q a1) (fun y hy => ?_) (fun y hy hy2 => by rw [mup_sl (by omega)]; exact h2 y (by omega) hy2)
            by_cases ey : y = x
            · rw [ey, mup_at, hv]
            · rw [mup_sl (by omega)]; exact h1 y (by omega)
          refine bMo_join_160 hX imb (fun w => absurd w hle) (fun _ => ix) (fun _ _ => ix) (fun _ w => ?_) (fun _ w => ?_)
          · rw [ex] at w
            rw [ex]
            refine tl (st x) ?_
            unfold rst
            rw [← hfr, if_neg (fun q => w (by rw [q]))]
          · rw [ex] at w
            refine tl to' ?_
            unfold rst
            rw [← hfr, ← hto, if_pos (qi_inj (by omega) (by omega) w)]
      have fin : ∀ fr to', fr = (if st r ≤ st s then st s else st r) → to' = (if st r ≤ st s then st r else st s) → QW (d + 1) mMo_join 155 (lMo_join_155 (qi z) (qi mb) (qi s) (qi r) (qi fr)) [.int (qi to')] (hpo X m sw o e) P := fun fr to' h1 h2 => bMo_join_155 hX (lp2 (dns D) 0 m fr to' (by omega) h1 h2 (fun _ _ _ => rfl) (fun y hy => absurd hy (by omega)) (fun y _ hy2 => by rw [hfm _ _ (by omega)]; exact (hst y hy2).1))
      have mid : ∀ fr, fr = (if st r ≤ st s then st s else st r) → QW (d + 1) mMo_join 105 (lMo_join_105 (qi z) (qi mb) (qi s) (qi r) (qi c)) [.int (qi fr)] (hpo X m sw o e) P := by
        intro fr hfr
        refine bMo_join_105 hX is8 ir8 (fun _ => ir8) (fun w => ?_) (fun _ => is8) (fun w => ?_)
        · rw [er]; exact fin fr (st r) hfr (by rw [if_pos (ele.mp w)])
        · rw [es]; exact fin fr (st s) hfr (by rw [if_neg (fun q => w (ele.mpr q))])
      refine bMo_join_3 hX is60 (by rw [e5]; exact qi_inx (by omega) (by omega)) (fun _ => is8) (fun _ => ir8) (fun _ _ => is8) (fun _ w => ?_) (fun _ _ => ir8) (fun _ w => ?_) (fun w => absurd hle w)
      · rw [es]; exact mid (st s) (by rw [if_pos (ele.mp w)])
      · rw [er]; exact mid (st r) (by rw [if_neg (fun q => w (ele.mpr q))])
    | succ f ih =>
      intro c m hcc hfm hcm hpr hfl hsame
      have e5 : m 205 (Int32.toNatClampNeg (4 * qi mb + qi s)) = qi (dtb D s) := by rw [qf4, qi_N (by omega), hfm _ _ (by omega), hf _ _ (by omega)]; exact ts.1
      have e1 : m 194 (Int32.toNatClampNeg (m 205 (Int32.toNatClampNeg (4 * qi mb + qi s)))) = qi (dcl D s) := by rw [e5, Nt, hfm _ _ (by omega), hf _ _ (by omega)]; exact ts.2.1
      have hle : ¬ m 194 (Int32.toNatClampNeg (m 205 (Int32.toNatClampNeg (4 * qi mb + qi s)))) ≤ qi c := by rw [e1]; exact fun w => absurd ((qi_le (by omega) (by omega)).mp w) (by omega)
      refine bMo_join_3 hX is60 (by rw [e5]; exact qi_inx (by omega) (by omega)) (fun w => absurd w hle) (fun w => absurd w hle) (fun w => absurd w hle) (fun w => absurd w hle) (fun w => absurd w hle) (fun w => absurd w hle) (fun _ => ?_)
      rw [qf33, qf33]
      refine cMo_unite hX hz (by omega) (by omega) (fun m' hm hm2 => qcl_v (bMo_join_51 hX ?_))
      have n1 := nd_col ok (nn := nn) (nu := num2 mem z) hs (show c < dcl D s by omega)
      have n2 := nd_col ok (nn := nn) (nu := num2 mem z) hr (show c < dcl D r by omega)
      have he : eqv D (cdn (num2 mem z) (3 * s + c)) (cdn (num2 mem z) (3 * r + c)) := by rw [n1.2, n2.2]; exact one_full hs hr hone (by omega)
      rw [qi_1]
      refine ih (c + 1) m' (by omega) (fun j q a1 => by rw [hm2 j q a1]; exact hfm j q a1) (mcs_congr (mcs_mrg hcm n1.1 n2.1 he) (fun x hx => hm x (by have := nd_lt ok hx; omega))) (fun a b ha hb' q => by rw [hm a ha, hm b hb']; exact mrg_eq (hpr a b ha hb' q)) (fun c' hc' => ?_) (fun q a ha => ?_)
      · by_cases ec : c' = c
        · rw [ec, hm _ (by omega), hm _ (by omega)]
          exact mrg_xy.symm
        · rw [hm _ (by omega), hm _ (by omega)]
          exact mrg_eq (hfl c' (by omega))
      · rw [hm a ha]
        have e2 : grp m z (3 * r + c) = grp m z (3 * s + c) := by rw [hsame q _ (by omega), hsame q _ (by omega)]; exact (q c (by omega)).symm
        rw [e2, mrg_same]
        exact hsame q a ha
  exact bMo_join_0 hX (lp (dcl D s) 0 mem (by omega) (fun _ _ _ => rfl) hc (fun _ _ _ _ q => q) (fun c' hc' => absurd hc' (by omega)) (fun _ _ _ => rfl))
/-- the reference's form on the way: what is known of its nodes -/
def fsm (m m0 : Nat → Nat → Int32) (z mb nn : Nat) (D : qD) : Prop := mst m m0 z mb nn D ∧ mcs D nn (num2 m z) (grp m z) z
def kno (m : Nat → Nat → Int32) (z nn : Nat) (D : qD) (v : Int32) : Prop := ∃ a, nd D nn a ∧ cdn (num2 m z) a = v
theorem cMo_nodeS {v : Int32} (hX : X.length = 13) (h : fsm mem m0 z mb nn D) (h14 : nn ≤ 14) (hv : uN D v ∨ isK D v)
    (k : ∀ m' nn' a, fsm m' m0 z mb nn' D → nn ≤ nn' → nn' ≤ nn + 1 → (∀ x, nd D nn x → cdn (num2 m' z) x = cdn (num2 mem z) x ∧ grp m' z x = grp mem z x) → (∀ j q, ¬ ((j = 219 ∨ j = 220) ∧ 32 * z ≤ q ∧ q < 32 * z + 32) → ¬ (j = 221 ∧ q = z) → m' j q = mem j q) → nd D nn' a → cdn (num2 m' z) a = v → P (.inl (some (.int (qi (32 * z + a)))), hpo X m' sw o e)) : QW d mMo_node 0 (qen 4 [.ref 193, .int (qi z), .int v]) [] (hpo X mem sw o e) P := by
  have hm := h.1
  obtain ⟨hz, hb, hf, hn, hn15, hok, hu⟩ := hm
  have ok := hb.1
  refine cMo_node hX h.1 (Or.inl h14) hv (fun a ha ea => k mem nn a h (Nat.le_refl _) (by omega) (fun x _ => ⟨rfl, rfl⟩) (fun _ _ _ _ => rfl) ha ea) (fun _ hvN hno => ?_)
  have fr : ∀ j q, ¬ (j = 219 ∧ q = 32 * z + 12 + nn) → ¬ (j = 220 ∧ q = 32 * z + 12 + nn) → ¬ (j = 221 ∧ q = z) → nwn mem z nn v j q = mem j q := fun j q a1 a2 a3 => by unfold nwn; rw [mup_q, if_neg a3, mup_q, if_neg a1, mup_q, if_neg a2]
  have en : ∀ i, i < nn → num2 (nwn mem z nn v) z i = num2 mem z i := fun i hi => by unfold num2; rw [fr _ _ (by omega) (by omega) (by omega)]
  have el : num2 (nwn mem z nn v) z nn = v := by
    unfold num2 nwn
    rw [mup_ce (by omega), mup_ce (by omega), mup_at]
    exact i2k' v
  have gn : ∀ x, nd D nn x → grp (nwn mem z nn v) z x = grp mem z x := fun x hx => by
    have := nd_lt ok hx
    unfold grp
    rw [fr _ _ (by omega) (by omega) (by omega)]
  have gl : grp (nwn mem z nn v) z (12 + nn) = qi (32 * z + (12 + nn)) := by
    unfold grp nwn
    rw [mup_ce (by omega), show 32 * z + (12 + nn) = 32 * z + 12 + nn by omega, mup_at]
  have n1 := nd_num (D := D) (nn := nn + 1) (nu := num2 (nwn mem z nn v) z) (show nn < nn + 1 by omega)
  refine k (nwn mem z nn v) (nn + 1) (12 + nn) ⟨⟨hz, hb, fun j q hj => by rw [fr j q (by omega) (by omega) (by omega)]; exact hf j q hj, by unfold nwn; rw [mup_at], by omega, ⟨fun i hi => ?_, fun i j hi hj q => ?_⟩, fun i hi => ?_⟩, mcs_new ok hz (by omega) h.2 en gn gl⟩ (by omega) (Nat.le_refl _) (fun x hx => ⟨cdn_old ok hx en, gn x hx⟩) (fun j q a1 a2 => fr j q (by omega) (by omega) a2) n1.1 (by rw [n1.2]; exact el)
  · by_cases ei : i = nn
    · rw [ei, el]; exact hvN.1
    · rw [en i (by omega)]; exact hok.1 i (by omega)
  · by_cases ei : i = nn
    · by_cases ej : j = nn
      · omega
      · rw [ei, el, en j (by omega)] at q
        exact absurd q.symm (hno j (by omega))
    · by_cases ej : j = nn
      · rw [ej, el, en i (by omega)] at q
        exact absurd q (hno i (by omega))
      · rw [en i (by omega), en j (by omega)] at q
        exact hok.2 i j (by omega) (by omega) q
  · by_cases ei : i = nn
    · rw [ei, el]; exact hvN
    · rw [en i (by omega)]; exact hu i (by omega)
end MF2
