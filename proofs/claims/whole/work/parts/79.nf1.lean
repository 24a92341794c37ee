/-- a slot's value -/
def slv2 (m : Nat → Nat → Int32) (B sl : Nat) (v : Int32) (D : qD) : Prop := (m (B + 5) sl = -1 ∧ v = 2000 + m (B + 6) sl ∧ isN v) ∨ ∃ s c, s < dns D ∧ c < dcl D s ∧ m (B + 5) sl = qi s ∧ m (B + 6) sl = qi c ∧ v = cc s c
/-- the class's block at B is D -/
def nbk (m : Nat → Nat → Int32) (B : Nat) (D : qD) : Prop := okD D ∧ m B 1 = qi (dno D) ∧ m B 2 = qi (dns D) ∧ m B 3 = qi (dnc D) ∧ (∀ s, s < dns D → m (B + 1) s = qi (dtb D s) ∧ m (16 + 3 * dtb D s) 0 = qi (dcl D s) ∧ ∀ c, c < dcl D s → (dky D s c ↔ ¬ m (17 + 3 * dtb D s) c = 0)) ∧
  (∀ i, i < dno D → slv2 m B i (dou D i) D) ∧ ∀ i, i < dnc D → slv2 m B (3 + 2 * i) (dlf D i) D ∧ slv2 m B (4 + 2 * i) (drg D i) D ∧ (dls D i ↔ ¬ m (B + 3) i = 0)
section NF1
variable {d : Nat} {P : qE → Prop} {X : qH} {sw : Bool} {o : Int64} {e : List Nat} {mem m0 : Nat → Nat → Int32} {t B nn : Nat} {D : qD}
theorem slv_u {m : Nat → Nat → Int32} {sl : Nat} {v w : Int32} (h : slv2 m B sl v D) (h2 : slv2 m B sl w D) (ok : okD D) : v = w := by
  rcases h with ⟨h1, h3, -⟩ | ⟨s, c, h1, h3, h4, h5, h6⟩
  · rcases h2 with ⟨k1, k3, -⟩ | ⟨s', c', k1, k3, k4, k5, k6⟩
    · rw [h3, k3]
    · have := ok.1.2
      rw [h1] at k4
      have e1 : (-1 : Int32) < 0 := by decide
      rw [k4] at e1
      exact absurd e1 (qi_p (by omega))
  · have q1 := ok.1.2
    have q2 := (ok.2.2.2.1 s h1).1
    rcases h2 with ⟨k1, k3, -⟩ | ⟨s', c', k1, k3, k4, k5, k6⟩
    · rw [k1] at h4
      have e1 : (-1 : Int32) < 0 := by decide
      rw [h4] at e1
      exact absurd e1 (qi_p (by omega))
    · have q3 := (ok.2.2.2.1 s' k1).1
      have a1 : s = s' := qi_inj (by omega) (by omega) (h4.symm.trans k4)
      have a2 : c = c' := qi_inj (by omega) (by omega) (h5.symm.trans k5)
      rw [h6, k6, a1, a2]
theorem cNf_indexOf {x : Int32} (hX : X.length = 13) (ht : kNf t) (hn : mem t 11 = qi nn) (h15 : nn ≤ 15) (k1 : ∀ i, i < nn → mem (t + 7) i = x → P (.inl (some (.int (qi i))), hpo X mem sw o e)) (k0 : (∀ i, i < nn → ¬ mem (t + 7) i = x) → P (.inl (some (.int (-1))), hpo X mem sw o e)) : QW d mNf_indexOf 0 (qen 3 [.ref t, .int x]) [] (hpo X mem sw o e) P := by
  have lp : ∀ f i, i + f = nn → (∀ j, j < i → ¬ mem (t + 7) j = x) → QW d mNf_indexOf 2 (lNf_indexOf_2 x (qi i) t) [] (hpo X mem sw o e) P := by
    intro f
    induction f with
    | zero =>
      intro i hi hno
      have hle : mem t 11 ≤ qi i := by rw [hn]; exact (qi_le (by omega) (by omega)).mpr (by omega)
      exact bNf_indexOf_2 hX ht (fun _ => k0 (fun j hj => hno j (by omega))) (fun z => absurd hle z) (fun z => absurd hle z) (fun z => absurd hle z)
    | succ f ih =>
      intro i hi hno
      have hle : ¬ mem t 11 ≤ qi i := by rw [hn]; exact fun z => absurd ((qi_le (by omega) (by omega)).mp z) (by omega)
      have hN : Int32.toNatClampNeg (qi i) = i := qi_N (by omega)
      refine bNf_indexOf_2 hX ht (fun z => absurd z hle) (fun _ => qi_inx (by omega) (by omega)) (fun _ z => ?_) (fun _ z => ?_)
      · rw [hN] at z
        rw [qi_1]
        refine ih (i + 1) (by omega) (fun j hj => ?_)
        by_cases e1 : j = i
        · rw [e1]; exact z
        · exact hno j (by omega)
      · rw [hN] at z
        exact k1 i (by omega) z
  exact bNf_indexOf_0 hX ht (lp nn 0 (by omega) (fun j hj => absurd hj (by omega)))
/-- the numbers in the used slots before sl -/
def nsl (m : Nat → Nat → Int32) (B no nc sl : Nat) (v : Int32) : Prop := ∃ x, x < sl ∧ usd no nc x ∧ m (B + 5) x = -1 ∧ v = 2000 + m (B + 6) x
theorem nsl_uN (hb : nbk m0 B D) (v : Int32) : uN D v ↔ nsl m0 B (dno D) (dnc D) 15 v := by
  obtain ⟨ok, -, -, -, -, h5, h6⟩ := hb
  have q1 := ok.2.1
  have q2 := ok.2.2.1
  have use : ∀ sl w, slv2 m0 B sl w D → isN w → m0 (B + 5) sl = -1 ∧ w = 2000 + m0 (B + 6) sl := by
    intro sl w h hw
    rcases h with ⟨a1, a2, -⟩ | ⟨s, c, a1, a2, a3, a4, a5⟩
    · exact ⟨a1, a2⟩
    · have := ok.1.2
      have := (ok.2.2.2.1 s a1).1
      rw [a5] at hw
      exact absurd hw (cN (by omega))
  have back : ∀ sl w, slv2 m0 B sl w D → m0 (B + 5) sl = -1 → v = 2000 + m0 (B + 6) sl → w = v ∧ isN v := by
    intro sl w h hm hv
    rcases h with ⟨a1, a2, a3⟩ | ⟨s, c, a1, a2, a3, a4, a5⟩
    · rw [a2] at a3 ⊢
      rw [hv]
      exact ⟨rfl, a3⟩
    · have := ok.1.2
      rw [hm] at a3
      have e1 : (-1 : Int32) < 0 := by decide
      rw [a3] at e1
      exact absurd e1 (qi_p (by omega))
  constructor
  · rintro ⟨hn, ⟨i, hi, rfl | rfl⟩ | ⟨i, hi, rfl⟩⟩
    · obtain ⟨a1, a2⟩ := use _ _ (h6 i hi).1 hn
      exact ⟨3 + 2 * i, by omega, Or.inr ⟨by omega, by omega⟩, a1, a2⟩
    · obtain ⟨a1, a2⟩ := use _ _ (h6 i hi).2.1 hn
      exact ⟨4 + 2 * i, by omega, Or.inr ⟨by omega, by omega⟩, a1, a2⟩
    · obtain ⟨a1, a2⟩ := use _ _ (h5 i hi) hn
      exact ⟨i, by omega, Or.inl ⟨by omega, by omega⟩, a1, a2⟩
  · rintro ⟨sl, hs, hu, a1, a2⟩
    rcases hu with hu | hu
    · obtain ⟨w1, w2⟩ := back sl _ (h5 sl hu.2) a1 a2
      exact ⟨w2, Or.inr ⟨sl, hu.2, w1⟩⟩
    · by_cases ev : (sl - 3) % 2 = 0
      · obtain ⟨k, hk⟩ : ∃ k, sl = 3 + 2 * k := ⟨(sl - 3) / 2, by omega⟩
        subst hk
        obtain ⟨w1, w2⟩ := back _ _ (h6 k (by omega)).1 a1 a2
        exact ⟨w2, Or.inl ⟨k, by omega, Or.inl w1⟩⟩
      · obtain ⟨k, hk⟩ : ∃ k, sl = 4 + 2 * k := ⟨(sl - 4) / 2, by omega⟩
        subst hk
        obtain ⟨w1, w2⟩ := back _ _ (h6 k (by omega)).2.1 a1 a2
        exact ⟨w2, Or.inl ⟨k, by omega, Or.inr w1⟩⟩
theorem nsl_mono {m : Nat → Nat → Int32} {no nc a b : Nat} {v : Int32} (h : nsl m B no nc a v) (hab : a ≤ b) : nsl m B no nc b v := by
  obtain ⟨x, h1, h2⟩ := h
  exact ⟨x, by omega, h2⟩
theorem i2k {x y : Int32} : (2000 + x = 2000 + y) ↔ x = y := ⟨fun h => (Int32.add_right_inj 2000).mp h, fun h => by rw [h]⟩
def nuv (m : Nat → Nat → Int32) (t : Nat) : Nat → Int32 := fun i => 2000 + m (t + 7) i
theorem cNf_collectNumbers (hX : X.length = 13) (ht : kNf t) (hB : kBl B) (hBt : B + 7 ≤ t) (hb : nbk mem B D)
    (k : ∀ m' nn, m' t 11 = qi nn → nn ≤ 15 → nok nn (nuv m' t) → (∀ v, uN D v ↔ ∃ i, i < nn ∧ nuv m' t i = v) → (∀ j q, ¬ (j = t ∧ q = 11) → j ≠ t + 7 → m' j q = mem j q) → P (.inl none, hpo X m' sw o e)) : QW (d + 3) mNf_collectNumbers 0 (qen 3 [.ref t, .ref B]) [] (hpo X mem sw o e) P := by
  have ok := hb.1
  have uu := nsl_uN hb
  have h1 := hb.2.1
  have h2 := hb.2.2.2.1
  have q1 := ok.2.1
  have q2 := ok.2.2.1
  have lp : ∀ f sl m nn, sl + f = 15 → m t 11 = qi nn → nn ≤ sl → (∀ i j, i < nn → j < nn → nuv m t i = nuv m t j → i = j) → (∀ v, nsl mem B (dno D) (dnc D) sl v ↔ ∃ i, i < nn ∧ nuv m t i = v) → (∀ j q, ¬ (j = t ∧ q = 11) → j ≠ t + 7 → m j q = mem j q) → QW (d + 3) mNf_collectNumbers 7 (lNf_collectNumbers_7 (qi sl) t B) [] (hpo X m sw o e) P := by
    intro f
    induction f with
    | zero =>
      intro sl m nn hsl hn hns hin hv hfr
      obtain rfl : sl = 15 := by omega
      refine bNf_collectNumbers_7 hX ht hB (fun _ => ?_) (fun z => absurd (by decide) z)
      refine k m nn hn hns ⟨fun i hi => ?_, hin⟩ (fun v => (uu v).trans (hv v)) hfr
      exact ((uu _).mpr ((hv _).mpr ⟨i, hi, rfl⟩)).1
    | succ f ih =>
      intro sl m nn hsl hn hns hin hv hfr
      have hN : Int32.toNatClampNeg (qi sl) = sl := qi_N (by omega)
      have hix : inx (qi sl) 15 := qi_inx (by omega) (by omega)
      refine bNf_collectNumbers_7 hX ht hB (fun z => absurd ((qi_le (a := 15) (by omega) (by omega)).mp z) (by omega)) (fun _ => ?_)
      have skip : (¬ (usd (dno D) (dnc D) sl ∧ mem (B + 5) sl = -1)) → QW (d + 3) mNf_collectNumbers 7 (lNf_collectNumbers_7 (qi sl + 1) t B) [] (hpo X m sw o e) P := by
        intro z
        rw [qi_1]
        refine ih (sl + 1) m nn (by omega) hn (by omega) hin (fun v => ?_) hfr
        rw [← hv v]
        constructor
        · rintro ⟨x, a1, a2, a3, a4⟩
          by_cases e1 : x = sl
          · subst e1
            exact absurd ⟨a2, a3⟩ z
          · exact ⟨x, by omega, a2, a3, a4⟩
        · intro a
          exact nsl_mono a (by omega)
      refine cBl_used hX hB (by rw [hfr _ _ (by omega) (by omega)]; exact h1) (by rw [hfr _ _ (by omega) (by omega)]; exact h2) q2.2 q1 (by omega) (fun hu => qcl_i ?_) (fun hu => qcl_i ?_)
      · refine bNf_collectNumbers_18 hX ht hB (fun z => absurd z (by decide)) (fun _ => hix) (fun _ z => ?_) (fun _ _ => hix) (fun _ z => ?_)
        · rw [hN, hfr _ _ (by omega) (by omega)] at z
          refine skip (fun q => ?_)
          rw [q.2] at z
          exact absurd z (by decide)
        · rw [hN, hfr _ _ (by omega) (by omega)] at z
          rw [hN, hfr _ _ (by omega) (by omega)]
          have hm1 : mem (B + 5) sl = -1 := by
            have sv : ∃ v, slv2 mem B sl v D := by
              rcases hu with hu | hu
              · exact ⟨_, hb.2.2.2.2.2.1 sl hu.2⟩
              · by_cases ev : (sl - 3) % 2 = 0
                · obtain ⟨k, hk⟩ : ∃ k, sl = 3 + 2 * k := ⟨(sl - 3) / 2, by omega⟩
                  subst hk
                  exact ⟨_, (hb.2.2.2.2.2.2 k (by omega)).1⟩
                · obtain ⟨k, hk⟩ : ∃ k, sl = 4 + 2 * k := ⟨(sl - 4) / 2, by omega⟩
                  subst hk
                  exact ⟨_, (hb.2.2.2.2.2.2 k (by omega)).2.1⟩
            obtain ⟨v, sv⟩ := sv
            rcases sv with ⟨a1, -⟩ | ⟨s, c, a1, a2, a3, -⟩
            · exact a1
            · rw [a3] at z
              have := ok.1.2
              exact absurd ((qi_le (a := 0) (by omega) (by omega)).mpr (Nat.zero_le _)) z
          refine cNf_indexOf hX ht hn (by omega) (fun i hi hx => qcl_i ?_) (fun hno => qcl_i ?_)
          · refine bNf_collectNumbers_40 hX ht hB (fun _ => ?_) (fun q => absurd ((qi_le (a := 0) (by omega) (by omega)).mpr (Nat.zero_le _)) q) (fun q => absurd ((qi_le (a := 0) (by omega) (by omega)).mpr (Nat.zero_le _)) q) (fun q => absurd ((qi_le (a := 0) (by omega) (by omega)).mpr (Nat.zero_le _)) q)
            rw [qi_1]
            refine ih (sl + 1) m nn (by omega) hn (by omega) hin (fun v => ?_) hfr
            constructor
            · rintro ⟨x, a1, a2, a3, a4⟩
              by_cases e1 : x = sl
              · subst e1
                exact ⟨i, hi, by rw [a4]; unfold nuv; rw [hx]⟩
              · exact (hv v).mp ⟨x, by omega, a2, a3, a4⟩
            · intro a
              exact nsl_mono ((hv v).mpr a) (by omega)
          · have hN2 : Int32.toNatClampNeg (qi nn) = nn := qi_N (by omega)
            refine bNf_collectNumbers_40 hX ht hB (fun q => absurd q (by decide)) (fun _ => hix) (fun _ => by rw [hn]; exact qi_inx (by omega) (by omega)) (fun _ => ?_)
            rw [hn, hN2, hN, hfr _ _ (by omega) (by omega), mup_ce (show t ≠ t + 7 by omega), hn, qi_1, qi_1]
            refine ih (sl + 1) _ (nn + 1) (by omega) (by rw [mup_at]) (by omega) (fun i j hi hj hij => ?_) (fun v => ?_) (fun j q a1 a2 => ?_)
            · unfold nuv at hij
              rw [i2k, mup_ce (show t + 7 ≠ t by omega), mup_q, mup_q] at hij
              by_cases e1 : i = nn
              · by_cases e2 : j = nn
                · omega
                · rw [if_pos ⟨rfl, e1⟩, if_neg (by omega)] at hij
                  exact absurd hij.symm (hno j (by omega))
              · by_cases e2 : j = nn
                · rw [if_neg (by omega), if_pos ⟨rfl, e2⟩] at hij
                  exact absurd hij (hno i (by omega))
                · rw [if_neg (by omega), if_neg (by omega)] at hij
                  exact hin i j (by omega) (by omega) (i2k.mpr hij)
            · have en : ∀ i, i < nn → nuv (mup (mup m (t + 7) nn (mem (B + 6) sl)) t 11 (qi (nn + 1))) t i = nuv m t i := by
                intro i hi
                unfold nuv
                rw [mup_ce (show t + 7 ≠ t by omega), mup_sl (by omega)]
              have el : nuv (mup (mup m (t + 7) nn (mem (B + 6) sl)) t 11 (qi (nn + 1))) t nn = 2000 + mem (B + 6) sl := by
                unfold nuv
                rw [mup_ce (show t + 7 ≠ t by omega), mup_at]
              constructor
              · rintro ⟨x, a1, a2, a3, a4⟩
                by_cases e1 : x = sl
                · subst e1
                  exact ⟨nn, by omega, by rw [el, a4]⟩
                · obtain ⟨i, hi, h⟩ := (hv v).mp ⟨x, by omega, a2, a3, a4⟩
                  exact ⟨i, by omega, by rw [en i hi]; exact h⟩
              · rintro ⟨i, hi, h⟩
                by_cases e1 : i = nn
                · subst e1
                  exact ⟨sl, by omega, hu, hm1, by rw [← h, el]⟩
                · rw [en i (by omega)] at h
                  exact nsl_mono ((hv v).mpr ⟨i, by omega, h⟩) (by omega)
            · rw [mup_q, if_neg (by omega), mup_ce a2]
              exact hfr j q a1 a2
      · refine bNf_collectNumbers_18 hX ht hB (fun _ => skip (fun q => hu q.1)) (fun z => absurd rfl z) (fun z => absurd rfl z) (fun z => absurd rfl z) (fun z => absurd rfl z)
  refine bNf_collectNumbers_0 hX ht hB ?_
  refine lp 15 0 _ 0 (by omega) (by rw [mup_at]; rfl) (Nat.le_refl _) (fun i j hi => absurd hi (by omega)) (fun v => ⟨fun ⟨x, a1, _⟩ => absurd a1 (by omega), fun ⟨i, a1, _⟩ => absurd a1 (by omega)⟩) (fun j q a1 a2 => ?_)
  rw [mup_q, if_neg a1]
theorem cNf_merge {a b : Int32} (hX : X.length = 13) (ht : kNf t) (k0 : a = b → P (.inl (some (.int 0)), hpo X mem sw o e)) (k1 : ¬ a = b → ∀ m', (∀ x, x < 27 → m' (t + 8) x = mrg (mem (t + 8)) a b x) → (∀ j q, j ≠ t + 8 → m' j q = mem j q) → P (.inl (some (.int 1)), hpo X m' sw o e)) : QW d mNf_merge 0 (qen 4 [.ref t, .int a, .int b]) [] (hpo X mem sw o e) P := by
  refine bNf_merge_0 hX ht (fun hab => ?_) k0
  have lp : ∀ f i m, i + f = 27 → (∀ x, x < i → m (t + 8) x = mrg (mem (t + 8)) a b x) → (∀ x, i ≤ x → m (t + 8) x = mem (t + 8) x) → (∀ j q, j ≠ t + 8 → m j q = mem j q) → QW d mNf_merge 9 (lNf_merge_9 a b (qi i) t) [] (hpo X m sw o e) P := by
    intro f
    induction f with
    | zero =>
      intro i m hi h1 h2 hfr
      obtain rfl : i = 27 := by omega
      have hle : (27 : Int32) ≤ qi 27 := by decide
      exact bNf_merge_9 hX ht (fun _ => k1 hab m h1 hfr) (fun z => absurd hle z) (fun z => absurd hle z) (fun z => absurd hle z) (fun z => absurd hle z)
    | succ f ih =>
      intro i m hi h1 h2 hfr
      have hN : Int32.toNatClampNeg (qi i) = i := qi_N (by omega)
      have hix : inx (qi i) 27 := qi_inx (by omega) (by omega)
      refine bNf_merge_9 hX ht (fun z => absurd ((qi_le (a := 27) (by omega) (by omega)).mp z) (by omega)) (fun _ => hix) (fun _ z => ?_) (fun _ _ => hix) (fun _ z => ?_)
      · rw [hN, h2 i (Nat.le_refl _)] at z
        rw [qi_1]
        refine ih (i + 1) m (by omega) (fun x hx => ?_) (fun x hx => h2 x (by omega)) hfr
        by_cases e1 : x = i
        · rw [e1, h2 i (Nat.le_refl _)]
          unfold mrg
          rw [if_neg z]
        · exact h1 x (by omega)
      · rw [hN, h2 i (Nat.le_refl _)] at z
        rw [hN, qi_1]
        refine ih (i + 1) _ (by omega) (fun x hx => ?_) (fun x hx => by rw [mup_sl (by omega)]; exact h2 x (by omega)) (fun j q hj => by rw [mup_ce hj]; exact hfr j q hj)
        by_cases e1 : x = i
        · rw [e1, mup_at]
          unfold mrg
          rw [if_pos z]
        · rw [mup_sl e1]
          exact h1 x (by omega)
  exact lp 27 0 mem (by omega) (fun x hx => absurd hx (by omega)) (fun x _ => rfl) (fun j q _ => rfl)
/-- what holds of the form at t where the numbers are collected: memory m0 at the start, block B -/
def nst (m m0 : Nat → Nat → Int32) (t B nn : Nat) (D : qD) : Prop := nbk m0 B D ∧ B + 7 ≤ t ∧ 27 < B ∧ (∀ j q, ¬ (t ≤ j ∧ j < t + 10) → m j q = m0 j q) ∧ m t 11 = qi nn ∧ nn ≤ 15 ∧ nok nn (nuv m t) ∧ ∀ v, uN D v ↔ ∃ i, i < nn ∧ nuv m t i = v
theorem nst_to {m m' : Nat → Nat → Int32} (h : nst m m0 t B nn D) (h1 : m' t 11 = m t 11) (h2 : ∀ q, m' (t + 7) q = m (t + 7) q) (h3 : ∀ j q, ¬ (t ≤ j ∧ j < t + 10) → m' j q = m j q) : nst m' m0 t B nn D := by
  obtain ⟨a1, a2, a3, a4, a5, a6, a7, a8⟩ := h
  have e1 : nuv m' t = nuv m t := by
    funext i
    unfold nuv
    rw [h2]
  exact ⟨a1, a2, a3, fun j q hj => by rw [h3 j q hj]; exact a4 j q hj, by rw [h1]; exact a5, a6, by rw [e1]; exact a7, by rw [e1]; exact a8⟩
theorem cNf_classOfSlot {sl : Nat} {v : Int32} (hX : X.length = 13) (ht : kNf t) (hB : kBl B) (h : nst mem m0 t B nn D) (hsl : sl < 15) (hs : slv2 m0 B sl v D) (hv : uN D v ∨ isK D v)
    (k : ∀ a, nd D nn a → cdn (nuv mem t) a = v → P (.inl (some (.int (mem (t + 8) a))), hpo X mem sw o e)) : QW (d + 1) mNf_classOfSlot 0 (qen 5 [.ref t, .ref B, .int (qi sl)]) [] (hpo X mem sw o e) P := by
  obtain ⟨hb, hBt, h27, hfr, hn, h15, hok, hu⟩ := h
  have ok := hb.1
  have hN : Int32.toNatClampNeg (qi sl) = sl := qi_N (by omega)
  have hix : inx (qi sl) 15 := qi_inx (by omega) (by omega)
  refine bNf_classOfSlot_0 hX ht hB hix hix (fun z => ?_) (fun z => ?_)
  · rw [hN, hfr _ _ (by omega)] at z
    rw [hN, hfr _ _ (by omega), hfr _ _ (by omega)]
    rcases hs with ⟨a1, -⟩ | ⟨s, c, a1, a2, a3, a4, a5⟩
    · rw [a1] at z
      exact absurd z (by decide)
    · have q1 := ok.1.2
      have q2 := (ok.2.2.2.1 s a1).1
      have e1 : qi s * 3 + qi c = qi (3 * s + c) := by
        rw [show (3 : Int32) = qi 3 from rfl, qi_mul, qi_add, Nat.mul_comm]
      rw [a3, a4, e1]
      refine bNf_classOfSlot_41 hX ht hB (qi_inx (by omega) (by omega)) ?_
      rw [qi_N (by omega)]
      have n1 := nd_col ok (nn := nn) (nu := nuv mem t) a1 a2
      exact k _ n1.1 (by rw [n1.2, a5])
  · rw [hN, hfr _ _ (by omega)] at z
    rw [hN, hfr _ _ (by omega), hfr _ _ (by omega)]
    rcases hs with ⟨a1, a2, a3⟩ | ⟨s, c, a1, a2, a3, a4, a5⟩
    · have hv' : uN D v := by
        rcases hv with hv | ⟨s, c, b1, b2, b3⟩
        · exact hv
        · have q1 := ok.1.2
          have q2 := (ok.2.2.2.1 s b1).1
          rw [b3] at a3
          exact absurd a3 (cN (by omega))
      obtain ⟨i, hi, hiv⟩ := (hu v).mp hv'
      unfold nuv at hiv
      rw [a2, i2k] at hiv
      refine cNf_indexOf hX ht hn h15 (fun i' hi' hx => qcl_i ?_) (fun hno => absurd hiv (hno i hi))
      refine bNf_classOfSlot_31 hX ht hB (bNf_classOfSlot_41 hX ht hB ?_ ?_)
      · rw [show (12 : Int32) = qi 12 from rfl, qi_add]
        exact qi_inx (by omega) (by omega)
      · rw [show (12 : Int32) = qi 12 from rfl, qi_add, qi_N (by omega)]
        have n1 := nd_num (D := D) (nu := nuv mem t) hi'
        refine k _ n1.1 ?_
        rw [n1.2, a2]
        unfold nuv
        rw [hx]
    · have q1 := ok.1.2
      rw [a3] at z
      exact absurd ((qi_le (a := 0) (by omega) (by omega)).mpr (Nat.zero_le _)) z
end NF1
