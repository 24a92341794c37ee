section HAL
variable {d : Nat} {P : qE → Prop} {X : qH} {mem : Nat → Nat → Int32} {sw : Bool} {o : Int64} {e : List Nat} {xs : List Int32} {a4 : Int32} {w5 w6 : Slot} {D E : qD}
/-- what alike and sources write lies outside the state -/
theorem qI_frm {m' : Nat → Nat → Int32} (h : qI mem sw) (hf : ∀ j x, ¬ (170 ≤ j ∧ j < 190) → j ≠ 191 → ¬ (j = 193 ∧ x = 0) → ¬ (219 ≤ j ∧ j < 224) → m' j x = mem j x) : qI m' sw := by
  obtain ⟨cnt, col, row, hT, hT0, hTx, hpl, hA, hQ⟩ := h
  refine qI_oth hT hT0 (hf _ _ (by omega) (by omega) (by omega) (by omega)) (hf _ _ (by omega) (by omega) (by omega) (by omega)) (fun j x hj => hf _ _ (by omega) (by omega) (by omega) (by omega)) ⟨qTx_mono (hf _ _ (by omega) (by omega) (by omega) (by omega)) (hf _ _ (by omega) (by omega) (by omega) (by omega)) (fun k => hf _ _ (by omega) (by omega) (by omega) (by omega)) (fun k => hf _ _ (by omega) (by omega) (by omega) (by omega)) hTx, ?_, qAn_mono (fun j x h1 h2 => hf j x (by omega) (by omega) (by omega) (by omega)) (fun x h1 h2 => hf _ _ (by omega) (by omega) (by omega) (by omega)) (fun j x h1 h2 => hf _ _ (by omega) (by omega) (by omega) (by omega)) hA, qQs_mono (hf _ _ (by omega) (by omega) (by omega) (by omega)) (hf _ _ (by omega) (by omega) (by omega) (by omega)) (fun j x h1 h2 => hf _ _ (by omega) (by omega) (by omega) (by omega)) (fun j x h1 h2 => hf _ _ (by omega) (by omega) (by omega) (by omega)) (Nat.le_refl _) (fun _ _ => rfl) hQ⟩
  rw [hf _ _ (by omega) (by omega) (by omega) (by omega), hf _ _ (by omega) (by omega) (by omega) (by omega)]; exact hpl
theorem qsl_v {m : Nat → Nat → Int32} {B sl : Nat} {v : Int32} {tb col : Nat → Nat} (hd : dtb D = tb) (hc : dcl D = fun s => col (tb s)) (h : qsl m B sl v (dns D) tb col) : slv2 m B sl v D ∧ (isK D v ∨ isN v) := by
  have hcc : ∀ s, dcl D s = col (tb s) := fun s => by rw [hc]
  rcases h with ⟨h1, h2, h3, h4⟩ | ⟨s, c, h1, h2, h3, h4, h5⟩
  · exact ⟨Or.inl ⟨h1, h2, h3, h4⟩, Or.inr ⟨h3, h4⟩⟩
  · exact ⟨Or.inr ⟨s, c, h1, by rw [hcc]; exact h2, h3, h4, h5⟩, Or.inl ⟨s, c, h1, by rw [hcc]; exact h2, h5⟩⟩
theorem qQ1_D {m : Nat → Nat → Int32} {q cnt : Nat} {col row : Nat → Nat} (hq : q < 4) (hT : qT m cnt col row) (h : qQ1 m q cnt col) : ∃ D : qD, nbk m (39 + 24 * q) D ∧ mbk m (3 * q) D ∧ m (39 + 24 * q) 0 = m 201 (3 * q) ∧ ∀ s, dcl D s = col (dtb D s) := by
  obtain ⟨nb, h1, h2, h3, h4, h5, h6⟩ := h
  obtain ⟨t1, t2, t3, t4⟩ := hT
  have hB := h4 0 (by omega)
  rw [Nat.mul_zero, Nat.add_zero, Nat.add_zero] at hB
  obtain ⟨no, ns, nc, tb, g1, g2, g3, g4, g5, g6, g7, g8, g9, g10⟩ := hB
  have tb4 : ∀ k, k < ns → tb k < 4 := fun k hk => by have := (g8 k hk).1; omega
  let D : qD := ((ns, nc, no), tb, fun s => col (tb s), fun s c => ¬ m (17 + 3 * tb s) c = 0, fun i => m 208 (6 * (3 * q) + i), fun i => m 209 (6 * (3 * q) + i), fun i => ¬ m 210 (6 * (3 * q) + i) = 0, fun i => m 203 (3 * (3 * q) + i))
  have vo : ∀ k, k < no → slv2 m (39 + 24 * q) k (dou D k) D ∧ (isK D (dou D k) ∨ isN (dou D k)) := fun k hk => qsl_v (D := D) rfl rfl (g9 k hk)
  have vl : ∀ k, k < nc → slv2 m (39 + 24 * q) (3 + 2 * k) (dlf D k) D ∧ (isK D (dlf D k) ∨ isN (dlf D k)) := fun k hk => qsl_v (D := D) rfl rfl (g10 k hk).1
  have vr : ∀ k, k < nc → slv2 m (39 + 24 * q) (4 + 2 * k) (drg D k) D ∧ (isK D (drg D k) ∨ isN (drg D k)) := fun k hk => qsl_v (D := D) rfl rfl (g10 k hk).2.1
  have ok : okD D := by
    refine ⟨g2, g3, g1, fun s hs => ⟨(t4 _ (tb4 s hs)).2.2.1, tb4 s hs⟩, fun s t hs ht hst => ?_, fun i hi => ⟨(vl i hi).2, (vr i hi).2⟩, fun i hi => (vo i hi).2⟩
    have hst : tb s = tb t := hst
    refine ⟨?_, fun c => ?_⟩
    · show col (tb s) = col (tb t)
      rw [hst]
    · show (¬ m (17 + 3 * tb s) c = 0) ↔ ¬ m (17 + 3 * tb t) c = 0
      rw [hst]
  refine ⟨D, ⟨ok, g5.1, g6.1, g7.1, fun s hs => ⟨(g8 s hs).2.1, (t4 _ (tb4 s hs)).1, fun c _ => Iff.rfl⟩, fun i hi => (vo i hi).1, fun i hi => ⟨(vl i hi).1, (vr i hi).1, ?_⟩⟩, ⟨ok, by omega, g5.2, g6.2, g7.2, fun s hs => ⟨(g8 s hs).2.2, (t4 _ (tb4 s hs)).2.1, fun c hc => ?_⟩, fun i hi => rfl, fun i hi => ⟨rfl, rfl, Iff.rfl⟩⟩, g4, fun s => rfl⟩
  · show (¬ m 210 (6 * (3 * q) + i) = 0) ↔ ¬ m (39 + 24 * q + 3) i = 0
    rw [(g10 i hi).2.2]
  · have c3 : c < 3 := Nat.lt_of_lt_of_le hc (t4 _ (tb4 s hs)).2.2.1
    have := (t4 _ (tb4 s hs)).2.2.2.2.2.2.2.1 c c3
    rw [show 16 + 3 * tb s + 1 = 17 + 3 * tb s by omega] at this
    show (¬ m (17 + 3 * tb s) c = 0) ↔ ¬ m 197 (3 * tb s + c) = 0
    rw [this]
theorem nbk_mono {m m' : Nat → Nat → Int32} {B : Nat} (h : nbk m B D) (hB : B + 7 ≤ 157) (hm : ∀ j x, j < 157 → m' j x = m j x) : nbk m' B D := by
  obtain ⟨h1, h2, h3, h4, h5, h6, h7⟩ := h
  have sv : ∀ sl v, slv2 m B sl v D → slv2 m' B sl v D := by
    intro sl v hs
    unfold slv2 at hs ⊢
    rw [hm _ _ (by omega), hm _ _ (by omega)]
    exact hs
  refine ⟨h1, ?_, ?_, ?_, fun s hs => ?_, fun i hi => sv _ _ (h6 i hi), fun i hi => ⟨sv _ _ (h7 i hi).1, sv _ _ (h7 i hi).2.1, ?_⟩⟩
  · rw [hm _ _ (by omega)]; exact h2
  · rw [hm _ _ (by omega)]; exact h3
  · rw [hm _ _ (by omega)]; exact h4
  · have t4 := (h1.2.2.2.1 s hs).2
    obtain ⟨g1, g2, g3⟩ := h5 s hs
    refine ⟨?_, ?_, fun c hc => ?_⟩
    · rw [hm _ _ (by omega)]; exact g1
    · rw [hm _ _ (by omega)]; exact g2
    · rw [hm _ _ (by omega)]; exact g3 c hc
  · rw [hm _ _ (by omega)]; exact (h7 i hi).2.2
theorem nfo_mono {m m' : Nat → Nat → Int32} {t nn lc : Nat} {l : Nat → Nat} {sf : Int32} (h : nfo D m t nn lc l sf) (hm : ∀ j x, t ≤ j → j < t + 10 → m' j x = m j x) : nfo D m' t nn lc l sf := by
  have e : ∀ j, j < 10 → m' (t + j) = m (t + j) := fun j hj => funext fun x => hm _ _ (by omega) (by omega)
  have e0 : m' t = m t := e 0 (by omega)
  unfold nfo lef nuv at h ⊢
  rw [e0, e 1 (by omega), e 2 (by omega), e 3 (by omega), e 4 (by omega), e 5 (by omega), e 6 (by omega), e 7 (by omega), e 8 (by omega), e 9 (by omega)]
  exact h
def vld (nq : Nat) (a : Int32) : Prop := ∃ q, q < nq ∧ a = qi q
theorem vld_n {nq : Nat} {a : Int32} (h4 : nq ≤ 4) (h : ¬ vld nq a) : a < 0 ∨ (¬ a < 0 ∧ ¬ a < qi nq) := by
  by_cases h0 : a < 0
  · exact Or.inl h0
  · refine Or.inr ⟨h0, fun z => ?_⟩
    obtain ⟨q, hq, e'⟩ := qi_of h0
    rw [e', qi_lt hq (by omega)] at z
    exact h ⟨q, z, e'⟩
theorem cBp_qAtV {q nq : Nat} (hX : X.length = 13) (hq : q < nq) (h4 : nq ≤ 4) (hm : mem 13 4 = qi nq) (k : P (.inl (some (.ref (36 + 24 * q))), hpo X mem sw o e)) : QW d mBp_questionAt 0 (qen 2 [.ref 13, .int (qi q)]) [] (hpo X mem sw o e) P := by
  refine bBp_questionAt_0 hX (fun z => absurd z (qi_p (by omega))) (fun _ _ => qi_inx (by omega) (by omega)) (fun _ _ => ?_) (fun _ z => absurd (by rw [hm]; exact (qi_lt (by omega) (by omega)).mpr hq) z)
  rw [qi_N (by omega)]
  exact k
theorem cBp_qAtN {a : Int32} {nq : Nat} (hX : X.length = 13) (he : e.length < 10000) (h : ¬ vld nq a) (h4 : nq ≤ 4) (hm : mem 13 4 = qi nq) (k : P (.inr (225 + e.length), hpo X mem sw o (e ++ [20]))) : QW d mBp_questionAt 0 (qen 2 [.ref 13, .int a]) [] (hpo X mem sw o e) P := by
  have hno := vld_n h4 h
  have fin : QW d mBp_questionAt 12 (lBp_questionAt_12 a) [] (hpo X mem sw o e) P := bBp_questionAt_12 hX he k
  refine bBp_questionAt_0 hX (fun _ => fin) (fun z1 z2 => ?_) (fun z1 z2 => ?_) (fun _ _ => fin)
  · rw [hm] at z2
    exact absurd hno (by rintro (y | y); exact z1 y; exact y.2 z2)
  · rw [hm] at z2
    exact absurd hno (by rintro (y | y); exact z1 y; exact y.2 z2)
theorem blk0 (q : Nat) : 36 + 24 * q + 3 + 7 * Int32.toNatClampNeg 0 = 39 + 24 * q := by
  rw [show Int32.toNatClampNeg 0 = 0 from rfl]; omega
theorem kBl_q {q : Nat} (hq : q < 4) : kBl (39 + 24 * q) := by
  have := (kQu_b (kQu_at (show q < 5 by omega)) 0 (by omega)).1
  rw [show 36 + 24 * q + 3 + 7 * 0 = 39 + 24 * q by omega] at this
  exact this
theorem cBp_only1 {q : Nat} (hX : X.length = 13) (he : e.length < 10000) (hq : q < 4) (h1 : mem (36 + 24 * q) 0 = 1) (k : P (.inl (some (.ref (39 + 24 * q))), hpo X mem sw o e)) : QW d mBp_onlyBlock 0 (qen 1 [.ref (36 + 24 * q)]) [] (hpo X mem sw o e) P := by
  refine bBp_onlyBlock_0 hX (kQu_at (by omega)) (fun _ => ?_) he (fun w => absurd h1 w)
  rw [blk0]; exact k
theorem cBp_onlyN {q : Nat} (hX : X.length = 13) (he : e.length < 10000) (hq : q < 4) (h1 : ¬ mem (36 + 24 * q) 0 = 1) (k : P (.inr (225 + e.length), hpo X mem sw o (e ++ [22]))) : QW d mBp_onlyBlock 0 (qen 1 [.ref (36 + 24 * q)]) [] (hpo X mem sw o e) P :=
  bBp_onlyBlock_0 hX (kQu_at (by omega)) (fun w => absurd w h1) he (fun _ => k)
theorem cMo_alike0 {q1 q2 nq c1 c2 : Nat} (hX : X.length = 13) (hq1 : q1 < nq) (hq2 : q2 < nq) (h4 : nq ≤ 4) (hm : mem 193 13 = qi nq) (h1 : mem 199 q1 = qi c1) (h2 : mem 199 q2 = qi c2) (hc1 : 1 ≤ c1 ∧ c1 ≤ 3) (hc2 : 1 ≤ c2 ∧ c2 ≤ 3)
    (k2 : ¬ (c1 = 1 ∧ c2 = 1) → P (.inl (some (.int 0)), hpo X (mup (mup mem 193 0 0) 193 0 2) sw o e)) (k1 : c1 = 1 → c2 = 1 → QW (d + 1) mMo_alike 68 (lMo_alike_68 (qi q1) (qi q2)) [.int 0, .ref 193] (hpo X (mup mem 193 0 0) sw o e) P) : QW (d + 1) mMo_alike 0 (qen 8 [.ref 193, .int (qi q1), .int (qi q2)]) [] (hpo X mem sw o e) P := by
  have e0 : (mup mem 193 0 0) 193 0 ≤ 0 := by rw [mup_at]; decide
  have e9 : ∀ q, (mup mem 193 0 0) 199 q = mem 199 q := fun q => by rw [mup_q, if_neg (by omega)]
  have two : ¬ (c1 = 1 ∧ c2 = 1) → QW (d + 1) mMo_alike 63 (lMo_alike_63 (qi q1) (qi q2)) [.ref 193] (hpo X (mup mem 193 0 0) sw o e) P := by
    intro w
    refine bMo_alike_63 hX (bMo_alike_68 hX (fun w2 => ?_) (fun _ => k2 w))
    rw [mup_at] at w2
    exact absurd w2 (by decide)
  have lt : ∀ a c : Nat, c ≤ 3 → ((1 : Int32) < qi c ↔ 1 < c) := fun a c hc => qi_lt (a := 1) (by omega) (by omega)
  refine bMo_alike_0 hX (fun w => absurd w (qi_p (by omega))) (fun _ w => ?_) (fun _ _ w => absurd w (qi_p (by omega))) (fun _ _ _ _ => ?_) (fun _ _ _ w => absurd (by rw [hm]; exact (qi_lt (by omega) (by omega)).mpr hq2) w)
  · rw [hm] at w
    have := (qi_le (by omega) (by omega)).mp w
    omega
  · refine bMo_alike_30 hX (fun _ => qi_inx (by omega) (by omega)) (fun _ w => two ?_) (fun _ _ => qi_inx (by omega) (by omega)) (fun _ w w2 => ?_) (fun _ w w2 => two ?_) (fun w => absurd e0 w)
    · rw [qi_N (by omega), e9, h1, lt 0 c1 hc1.2] at w
      omega
    · rw [qi_N (by omega), e9, h1, lt 0 c1 hc1.2] at w
      rw [qi_N (by omega), e9, h2] at w2
      have := (qi_le (b := 1) (by omega) (by omega)).mp w2
      exact k1 (by omega) (by omega)
    · rw [qi_N (by omega), e9, h2] at w2
      intro q
      rw [q.2] at w2
      exact w2 (by decide)
theorem cMo_alikeN {a1 a2 : Int32} {nq : Nat} (hX : X.length = 13) (h4 : nq ≤ 4) (hm : mem 193 13 = qi nq) (hno : ¬ (vld nq a1 ∧ vld nq a2)) (k : P (.inl (some (.int 0)), hpo X (mup mem 193 0 1) sw o e)) : QW d mMo_alike 0 (qen 8 [.ref 193, .int a1, .int a2]) [] (hpo X mem sw o e) P := by
  have hgt : ¬ mup mem 193 0 1 193 0 ≤ 0 := by rw [mup_at]; decide
  have fin : QW d mMo_alike 25 (lMo_alike_25 a1 a2) [.ref 193] (hpo X mem sw o e) P := bMo_alike_25 hX (bMo_alike_30 hX (fun w => absurd w hgt) (fun w => absurd w hgt) (fun w => absurd w hgt) (fun w => absurd w hgt) (fun w => absurd w hgt) (fun _ => k))
  refine bMo_alike_0 hX (fun _ => fin) (fun _ _ => fin) (fun _ _ _ => fin) (fun w1 w2 w3 w5 => ?_) (fun _ _ _ _ => fin)
  rw [hm] at w2 w5
  exact absurd (show vld nq a1 ∧ vld nq a2 by
    constructor
    · refine Classical.byContradiction fun q => ?_
      rcases vld_n h4 q with r | r
      · exact w1 r
      · exact r.2 (Int32.not_le.mp w2)
    · refine Classical.byContradiction fun q => ?_
      rcases vld_n h4 q with r | r
      · exact w3 r
      · exact r.2 w5) hno
theorem cBp_alikeV {q1 q2 nq : Nat} (hX : X.length = 13) (he : e.length < 10000) (hq1 : q1 < nq) (hq2 : q2 < nq) (h4 : nq ≤ 4) (hm : mem 13 4 = qi nq) (h1 : mem (36 + 24 * q1) 0 = 1) (h2 : mem (36 + 24 * q2) 0 = 1) (n1 : nbk mem (39 + 24 * q1) D) (n2 : nbk mem (39 + 24 * q2) E) (f1 : b01 (mem (39 + 24 * q1) 0)) (f2 : b01 (mem (39 + 24 * q2) 0)) (hcat : cat2 D E) (h192 : ∀ i, i < 4 → mem 192 i = 0)
    (k : ∀ m' (r : Int32), (∀ j x, ¬ (170 ≤ j ∧ j < 190) → j ≠ 191 → m' j x = mem j x) → b01 r → (r = 1 ↔ Alk D E (mem (39 + 24 * q1) 0) (mem (39 + 24 * q2) 0)) → P (.inl (some (.int r)), hpo X m' sw o e)) : QW (d + 10) mBp_alike 0 (qen 5 [.ref 13, .int (qi q1), .int (qi q2)]) [] (hpo X mem sw o e) P := by
  have K1 : kQu (36 + 24 * q1) := kQu_at (by omega)
  have K2 : kQu (36 + 24 * q2) := kQu_at (by omega)
  refine bBp_alike_0 hX (cBp_qAtV hX hq1 h4 hm (qcl_i (bBp_alike_5 hX K1 (cBp_qAtV hX hq2 h4 hm (qcl_i (bBp_alike_11 hX K1 K2 (cBp_only1 hX he (by omega) h1 (qcl_i (bBp_alike_21 hX K1 K2 (kBl_q (by omega)) ?_)))))))))
  refine cNf_build (d := d + 5) hX kNf_170' (kBl_q (by omega)) (by omega) (by omega) n1 rfl f1 (fun m1 nn1 lc1 l1 u1 v1 => qcl_v (bBp_alike_28 hX K1 K2 (cBp_only1 hX he (by omega) (by rw [u1 _ _ (by omega)]; exact h2) (qcl_i (bBp_alike_37 hX K1 K2 (kBl_q (by omega)) ?_)))))
  refine cNf_build (d := d + 5) (D := E) hX kNf_180' (kBl_q (by omega)) (by omega) (by omega) (nbk_mono n2 (by omega) (fun j x hj => u1 _ _ (by omega))) (u1 _ _ (by omega)) f2 (fun m2 nn2 lc2 l2 u2 v2 => qcl_v (bBp_alike_44 hX K1 K2 ?_))
  refine cPg_exists (d := d) hX kNf_170' kNf_180' ⟨by omega, by omega⟩ (nfo_mono v1 (fun j x _ _ => u2 _ _ (by omega))) v2 hcat (fun i hi => by rw [u2 _ _ (by omega), u1 _ _ (by omega)]; exact h192 i hi) (fun m3 r u3 hr hr2 => qcl_i (bBp_alike_59 hX K1 K2 (by rcases hr with rfl | rfl <;> rfl) (k m3 r (fun j x y1 y2 => ?_) hr hr2)))
  rw [u3 _ _ y2, u2 _ _ (by omega), u1 _ _ (by omega)]
theorem hLa_alike (hX : X.length = 13) (hS : X[0]? = some (80, xs.map Value.int)) (hw5 : qfr w5) (hw6 : qfr w6) (i1 : inx (a4 + 1) xs.length) (i2 : inx (a4 + 2) xs.length) (he : e.length < 10000) (hI : qI mem sw) (nx : lNx (d + 30) P X a4 (e.length + 1)) : QW (d + 30) mLa_law 721 (lLa_law_721 a4 w5 w6) [] (hpo X mem sw o e) P := by
  have hI' := hI
  obtain ⟨cnt, col, row, hT, hT0, hTx, hpl, hA, nq, hq1, hq2, hq3, hq4, hq5⟩ := hI'
  generalize ha : xs.getD (Int32.toNatClampNeg (a4 + 1)) 0 = a
  generalize hb : xs.getD (Int32.toNatClampNeg (a4 + 2)) 0 = b
  by_cases hv : vld nq a ∧ vld nq b
  · obtain ⟨⟨qa, la, ea⟩, qb, lb, eb⟩ := hv
    obtain ⟨ca, ga1, ga2, ga3, -⟩ := hq4 qa la
    obtain ⟨cb', gb1, gb2, gb3, -⟩ := hq4 qb lb
    by_cases hone : ca = 1 ∧ cb' = 1
    · obtain ⟨rfl, rfl⟩ := hone
      obtain ⟨D, nD, mD, fD, cD⟩ := qQ1_D (by omega) hT (hq4 qa la)
      obtain ⟨E, nE, mE, fE, cE⟩ := qQ1_D (by omega) hT (hq4 qb lb)
      have hcat : cat2 D E := fun s t _ _ hst => by rw [cD, cE, hst]
      have h192 : ∀ i, i < 4 → mem 192 i = 0 := by
        obtain ⟨n0, wd0, t1, t2, t3, t4, t5, t6, t7, t8⟩ := hA
        exact t8.2
      refine gLa_alike (d := d + 28) (I := qI)
        (A := fun v m s => s = sw ∧ b01 v ∧ (v = 1 ↔ Alk D E (mem 201 (3 * qa)) (mem 201 (3 * qb))) ∧ ∀ j x, ¬ (170 ≤ j ∧ j < 190) → j ≠ 191 → m j x = mem j x) (B1 := fun _ _ => False) (B2 := fun _ _ => False)
        hX hS hw5 hw6 i1 i2 ?_ ?_ (fun _ _ _ hf => hf.elim) (fun _ _ _ hf => hf.elim) (fun m s o' e' w5 w6 a b c n => nx m s o' e' w5 w6 a b c n)
      · intro Q' k _ _
        rw [ha, hb, ea, eb]
        exact cBp_alikeV (d := d + 18) (D := D) (E := E) hX he la lb hq1 hq2 ga2 gb2 nD nE (by rw [fD]; exact (hq5 _).1) (by rw [fE]; exact (hq5 _).1) hcat h192 (fun m' r u1 u2 u3 => k r m' sw ⟨rfl, u2, by rw [← fD, ← fE]; exact u3, u1⟩)
      · rintro v m s o' ⟨rfl, v1, v2, u1⟩ Q' k
        rw [ha, hb, ea, eb]
        refine cMo_alike0 (d := d + 28) hX la lb hq1 (by rw [u1 _ _ (by omega) (by omega)]; exact hq3) (by rw [u1 _ _ (by omega) (by omega)]; exact ga3) (by rw [u1 _ _ (by omega) (by omega)]; exact gb3) ⟨by omega, by omega⟩ ⟨by omega, by omega⟩ (fun w => absurd ⟨rfl, rfl⟩ w) (fun _ _ => ?_)
        have fr : ∀ j x, ¬ (170 ≤ j ∧ j < 190) → j ≠ 191 → ¬ (j = 193 ∧ x = 0) → (mup m 193 0 0) j x = mem j x := fun j x y1 y2 y3 => by rw [mup_q, if_neg (by omega)]; exact u1 _ _ y1 y2
        refine cMo_alike68 (d := d + 24) (D := D) (E := E) hX (mbk_mono mD (fun j x _ _ => fr _ _ (by omega) (by omega) (by omega))) (mbk_mono mE (fun j x _ _ => fr _ _ (by omega) (by omega) (by omega))) hcat (fun m' r r1 r2 r3 r4 => k r m' ?_ r3 (qI_frm hI (fun j x y1 y2 y3 y4 => by rw [r4 _ _ y3 y4]; exact fr _ _ y1 y2 y3)))
        rw [fr _ _ (by omega) (by omega) (by omega), fr _ _ (by omega) (by omega) (by omega)] at r2
        rcases v1 with rfl | rfl
        · rcases r1 with rfl | rfl
          · exact Iff.rfl
          · exact absurd (v2.mpr (r2.mp rfl)) (by decide)
        · rcases r1 with rfl | rfl
          · exact absurd (r2.mpr (v2.mp rfl)) (by decide)
          · exact Iff.rfl
    · -- more than one block
      have na : ¬ ca = 1 → ¬ mem (36 + 24 * qa) 0 = 1 := fun w q => w (qi_inj (b := 1) (by omega) (by omega) (by rw [ga2] at q; exact q))
      have nb : ¬ cb' = 1 → ¬ mem (36 + 24 * qb) 0 = 1 := fun w q => w (qi_inj (b := 1) (by omega) (by omega) (by rw [gb2] at q; exact q))
      refine gLa_alike (d := d + 28) (I := qI) (A := fun _ _ _ => False) (B1 := fun _ _ => False) (B2 := fun m s => s = sw ∧ ∀ j x, ¬ (170 ≤ j ∧ j < 190) → j ≠ 191 → m j x = mem j x)
        hX hS hw5 hw6 i1 i2 ?_ (fun _ _ _ _ hf => hf.elim) (fun _ _ _ hf => hf.elim) ?_ (fun m s o' e' w5 w6 a b c n => nx m s o' e' w5 w6 a b c n)
      · intro Q' _ _ t2
        rw [ha, hb, ea, eb]
        have K1 : kQu (36 + 24 * qa) := kQu_at (by omega)
        have K2 : kQu (36 + 24 * qb) := kQu_at (by omega)
        refine bBp_alike_0 (d := d + 27) hX (cBp_qAtV hX la hq1 hq2 (qcl_i (bBp_alike_5 hX K1 (cBp_qAtV hX lb hq1 hq2 (qcl_i (bBp_alike_11 hX K1 K2 ?_))))))
        by_cases hca : ca = 1
        · subst hca
          obtain ⟨D, nD, mD, fD, cD⟩ := qQ1_D (by omega) hT (hq4 qa la)
          refine cBp_only1 hX he (by omega) ga2 (qcl_i (bBp_alike_21 hX K1 K2 (kBl_q (by omega)) (cNf_build (d := d + 23) hX kNf_170' (kBl_q (by omega)) (by omega) (by omega) nD rfl (by rw [fD]; exact (hq5 _).1) (fun m1 nn1 lc1 l1 u1 v1 => qcl_v (bBp_alike_28 hX K1 K2 (cBp_onlyN hX he (by omega) (by rw [u1 _ _ (by omega)]; exact nb (fun w => hone ⟨rfl, w⟩)) (qcl_x rfl (t2 m1 sw ⟨rfl, fun j x y1 y2 => u1 _ _ (by omega)⟩))))))))
        · exact cBp_onlyN hX he (by omega) (na hca) (qcl_x rfl (t2 mem sw ⟨rfl, fun _ _ _ _ => rfl⟩))
      · rintro m s e' ⟨rfl, u1⟩ Q' k
        rw [ha, hb, ea, eb]
        refine cMo_alike0 (d := d + 28) hX la lb hq1 (by rw [u1 _ _ (by omega) (by omega)]; exact hq3) (by rw [u1 _ _ (by omega) (by omega)]; exact ga3) (by rw [u1 _ _ (by omega) (by omega)]; exact gb3) ga1 gb1 (fun _ => k _ _ (mup_at _ _ _ _) (qI_frm hI (fun j x y1 y2 y3 y4 => ?_))) (fun w1 w2 => absurd ⟨w1, w2⟩ hone)
        rw [mup_q, if_neg (by omega), mup_q, if_neg (by omega)]
        exact u1 _ _ y1 y2
  · refine gLa_alike (d := d + 28) (I := qI) (A := fun _ _ _ => False) (B1 := fun m s => s = sw ∧ m = mem) (B2 := fun _ _ => False)
      hX hS hw5 hw6 i1 i2 ?_ (fun _ _ _ _ hf => hf.elim) ?_ (fun _ _ _ hf => hf.elim) (fun m s o' e' w5 w6 a b c n => nx m s o' e' w5 w6 a b c n)
    · intro Q' _ t1 _
      rw [ha, hb]
      by_cases hva : vld nq a
      · obtain ⟨qa, la, ea⟩ := hva
        rw [ea]
        have K1 : kQu (36 + 24 * qa) := kQu_at (by omega)
        refine bBp_alike_0 (d := d + 27) hX (cBp_qAtV hX la hq1 hq2 (qcl_i (bBp_alike_5 hX K1 (cBp_qAtN hX he (fun w => hv ⟨⟨qa, la, ea⟩, w⟩) hq1 hq2 (qcl_x rfl (t1 _ _ ⟨rfl, rfl⟩))))))
      · exact bBp_alike_0 (d := d + 27) hX (cBp_qAtN hX he hva hq1 hq2 (qcl_x rfl (t1 _ _ ⟨rfl, rfl⟩)))
    · rintro m s e' ⟨rfl, rfl⟩ Q' k
      rw [ha, hb]
      exact cMo_alikeN hX hq1 hq3 hv (k _ _ (mup_at _ _ _ _) (qI_code _ hI))
theorem hLa_sources (hX : X.length = 13) (hS : X[0]? = some (80, xs.map Value.int)) (hw5 : qfr w5) (hw6 : qfr w6) (i1 : inx (a4 + 1) xs.length) (he : e.length < 10000) (hI : qI mem sw) (nx : lNx (d + 30) P X a4 (e.length + 1)) : QW (d + 30) mLa_law 796 (lLa_law_796 a4 w5 w6) [] (hpo X mem sw o e) P := by
  have hI' := hI
  obtain ⟨cnt, col, row, hT, hT0, hTx, hpl, hA, nq, hq1, hq2, hq3, hq4, hq5⟩ := hI'
  generalize ha : xs.getD (Int32.toNatClampNeg (a4 + 1)) 0 = a
  by_cases hv : vld nq a
  · obtain ⟨qa, la, ea⟩ := hv
    obtain ⟨ca, ga1, ga2, ga3, -⟩ := hq4 qa la
    have K1 : kQu (36 + 24 * qa) := kQu_at (by omega)
    have head : ∀ (m : Nat → Nat → Int32) (s : Bool) (o' : Int64) (e' : List Nat) (Q' : qE → Prop), m 193 13 = qi nq → m 199 qa = qi ca → (ca = 1 → QW (d + 29) mMo_sources 46 (lMo_sources_46 (qi qa)) [.int 0, .ref 193] (hpo X (mup m 193 0 0) s o' e') Q') → (¬ ca = 1 → Q' (.inl (some (.int 0)), hpo X (mup (mup m 193 0 0) 193 0 2) s o' e')) → QW (d + 29) mMo_sources 0 (qen 2 [.ref 193, .int (qi qa)]) [] (hpo X m s o' e') Q' := by
      intro m s o' e' Q' g1 g2 k1 k2
      have e0 : (mup m 193 0 0) 193 0 ≤ 0 := by rw [mup_at]; decide
      have e9 : (mup m 193 0 0) 199 (Int32.toNatClampNeg (qi qa)) = qi ca := by rw [qi_N (by omega), mup_q, if_neg (by omega)]; exact g2
      refine bMo_sources_0 hX (fun z => absurd z (qi_p (by omega))) (fun _ _ => ?_) (fun _ z => absurd (by rw [g1]; exact (qi_lt (by omega) (by omega)).mpr la) z)
      refine bMo_sources_18 hX (fun _ => qi_inx (by omega) (by omega)) (fun _ w => ?_) (fun _ w => ?_) (fun w => absurd e0 w)
      · rw [e9] at w
        have := (qi_le (b := 1) (by omega) (by omega)).mp w
        exact k1 (by omega)
      · refine bMo_sources_46 (d := d + 28) hX (fun w2 => ?_) (fun _ => k2 (fun q => ?_))
        · rw [mup_at] at w2
          exact absurd w2 (by decide)
        · rw [e9, q] at w
          exact w (by decide)
    by_cases hca : ca = 1
    · subst hca
      obtain ⟨D, nD, mD, fD, cD⟩ := qQ1_D (by omega) hT (hq4 qa la)
      refine gLa_sources (d := d + 28) (I := qI)
        (A := fun v m s => s = sw ∧ (Emp D → v = 0) ∧ (¬ Emp D → v = qi (ctS D (dns D))) ∧ ∀ j x, ¬ (170 ≤ j ∧ j < 190) → m j x = mem j x) (B1 := fun _ _ => False) (B2 := fun _ _ => False)
        hX hS hw5 hw6 i1 ?_ ?_ (fun _ _ _ hf => hf.elim) (fun _ _ _ hf => hf.elim) (fun m s o' e' w5 w6 a b c n => nx m s o' e' w5 w6 a b c n)
      · intro Q' k _ _
        rw [ha, ea]
        refine bBp_sources_0 (d := d + 27) hX (cBp_qAtV hX la hq1 hq2 (qcl_i (bBp_sources_9 hX K1 (cBp_only1 hX he (by omega) ga2 (qcl_i (bBp_sources_12 hX (kBl_q (by omega)) (cNf_build (d := d + 23) hX kNf_170' (kBl_q (by omega)) (by omega) (by omega) nD rfl (by rw [fD]; exact (hq5 _).1) (fun m1 nn1 lc1 l1 u1 v1 => qcl_v ?_))))))))
        have w0 := v1.2.2.2.2.1
        have w1 := v1.2.2.2.2.2.1
        have w7 := v1.2.2.2.2.2.2.2.2.2.2.1
        have wl := v1.2.2.2.2.2.2.2.2.2.2.2.1
        refine bBp_sources_19 hX (fun q => k _ _ _ ⟨rfl, fun w => ?_, fun _ => ?_, fun j x y => u1 _ _ (by omega)⟩) (fun q => k _ _ _ ⟨rfl, fun _ => rfl, fun w => ?_, fun j x y => u1 _ _ (by omega)⟩)
        · rw [w1.mpr w] at q
          exact absurd q (by decide)
        · rw [w7, wl.1]
        · rcases w0 with w0 | w0
          · exact absurd w0 q
          · exact absurd (w1.mp w0) w
      · rintro v m s o' ⟨rfl, v1, v2, u1⟩ Q' k
        rw [ha, ea]
        refine head _ _ _ _ _ (by rw [u1 _ _ (by omega)]; exact hq3) (by rw [u1 _ _ (by omega)]; exact ga3) (fun _ => ?_) (fun w => absurd rfl w)
        have fr : ∀ j x, ¬ (170 ≤ j ∧ j < 190) → ¬ (j = 193 ∧ x = 0) → (mup m 193 0 0) j x = mem j x := fun j x y1 y3 => by rw [mup_q, if_neg (by omega)]; exact u1 _ _ y1
        refine cMo_sources46 (d := d + 26) (D := D) hX (mbk_mono mD (fun j x _ _ => fr _ _ (by omega) (by omega))) (fun m' r r1 r2 r3 r4 => ?_)
        have : r = v := by
          by_cases hE : Emp D
          · rw [r1 hE, v1 hE]
          · rw [r2 hE, v2 hE]
        rw [this]
        exact k m' r3 (qI_frm hI (fun j x y1 y2 y3 y4 => by rw [r4 _ _ y3 y4]; exact fr _ _ y1 y3))
    · have na : ¬ mem (36 + 24 * qa) 0 = 1 := fun q => hca (qi_inj (b := 1) (by omega) (by omega) (by rw [ga2] at q; exact q))
      refine gLa_sources (d := d + 28) (I := qI) (A := fun _ _ _ => False) (B1 := fun _ _ => False) (B2 := fun m s => s = sw ∧ m = mem)
        hX hS hw5 hw6 i1 ?_ (fun _ _ _ _ hf => hf.elim) (fun _ _ _ hf => hf.elim) ?_ (fun m s o' e' w5 w6 a b c n => nx m s o' e' w5 w6 a b c n)
      · intro Q' _ _ t2
        rw [ha, ea]
        exact bBp_sources_0 (d := d + 27) hX (cBp_qAtV hX la hq1 hq2 (qcl_i (bBp_sources_9 hX K1 (cBp_onlyN hX he (by omega) na (qcl_x rfl (t2 mem sw ⟨rfl, rfl⟩))))))
      · rintro m s e' ⟨rfl, rfl⟩ Q' k
        rw [ha, ea]
        refine head _ _ _ _ _ hq3 ga3 (fun w => absurd w hca) (fun _ => k _ _ (mup_at _ _ _ _) (qI_frm hI (fun j x y1 y2 y3 y4 => ?_)))
        rw [mup_q, if_neg (by omega), mup_q, if_neg (by omega)]
  · have hno := vld_n hq1 hv
    refine gLa_sources (d := d + 28) (I := qI) (A := fun _ _ _ => False) (B1 := fun m s => s = sw ∧ m = mem) (B2 := fun _ _ => False)
      hX hS hw5 hw6 i1 ?_ (fun _ _ _ _ hf => hf.elim) ?_ (fun _ _ _ hf => hf.elim) (fun m s o' e' w5 w6 a b c n => nx m s o' e' w5 w6 a b c n)
    · intro Q' _ t1 _
      rw [ha]
      exact bBp_sources_0 (d := d + 27) hX (cBp_qAtN hX he hv hq1 hq2 (qcl_x rfl (t1 _ _ ⟨rfl, rfl⟩)))
    · rintro m s e' ⟨rfl, rfl⟩ Q' k
      rw [ha]
      have hgt : ¬ mup m 193 0 1 193 0 ≤ 0 := by rw [mup_at]; decide
      have fin : QW (d + 29) mMo_sources 13 (lMo_sources_13 a) [.ref 193] (hpo X m s o e') Q' := bMo_sources_13 hX (bMo_sources_18 hX (fun z => absurd z hgt) (fun z => absurd z hgt) (fun z => absurd z hgt) (fun _ => k _ _ (mup_at _ _ _ _) (qI_code _ hI)))
      refine bMo_sources_0 hX (fun _ => fin) (fun z1 z2 => ?_) (fun _ _ => fin)
      rw [hq3] at z2
      exact absurd hno (by rintro (y | y); exact z1 y; exact y.2 z2)
end HAL
