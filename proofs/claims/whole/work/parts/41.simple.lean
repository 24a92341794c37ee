/-- what the law does behind a call -/
def lNx (D : Nat) (P : qE → Prop) (X : qH) (a4 : Int32) (n : Nat) : Prop := ∀ m s o' (e' : List Nat) w5 w6, qfr w5 → qfr w6 → qI m s → e'.length ≤ n → QW D mLa_law 852 (lLa_law_852 a4 w5 w6) [] (hpo X m s o' e') P
section SIM
variable {d : Nat} {P : qE → Prop} {X : qH} {mem : Nat → Nat → Int32} {sw : Bool} {o : Int64} {e : List Nat} {xs : List Int32} {a4 : Int32} {w5 w6 : Slot}
theorem qcol_u {cnt : Nat} {col : Nat → Nat} {a b : Int32} {t c t' c' : Nat} (h4 : cnt ≤ 4) (h3 : ∀ i, i < 4 → col i ≤ 3) (h : qcol cnt col a b t c) (h' : qcol cnt col a b t' c') : t' = t ∧ c' = c := by
  obtain ⟨a1, a2, a3, a4⟩ := h
  obtain ⟨b1, b2, b3, b4⟩ := h'
  have hx := h3 t (by omega)
  have hy := h3 t' (by omega)
  exact ⟨qi_inj (by omega) (by omega) (b1.symm.trans a1), qi_inj (by omega) (by omega) (b2.symm.trans a2)⟩
theorem qtwin_c {g g' : Nat → Int32} {n : Nat} (h : ∀ i, i < n → g i = g' i) (ht : qtwin g n) : qtwin g' n := by
  obtain ⟨i, j, h1, h2, h3⟩ := ht
  exact ⟨i, j, h1, h2, by rw [← h i (by omega), ← h j h2]; exact h3⟩
theorem hLa_key (hX : X.length = 13) (hS : X[0]? = some (80, xs.map Value.int)) (hw5 : qfr w5) (hw6 : qfr w6) (i1 : inx (a4 + 1) xs.length) (i2 : inx (a4 + 2) xs.length) (he : e.length < 10000) (hI : qI mem sw) (nx : lNx (d + 8) P X a4 (e.length + 1)) : QW (d + 8) mLa_law 168 (lLa_law_168 a4 w5 w6) [] (hpo X mem sw o e) P := by
  obtain ⟨cnt, col, row, hT, hT0, hR⟩ := hI
  have hT' := hT
  obtain ⟨h4, hc1, hc2, h1⟩ := hT'
  have c3 : ∀ i, i < 4 → col i ≤ 3 := fun i hi => (h1 i hi).2.2.1
  refine gLa_key (d := d + 6) (I := qI)
    (A := fun m s => s = sw ∧ ∃ t c, qcol cnt col (xs.getD (Int32.toNatClampNeg (a4 + 1)) 0) (xs.getD (Int32.toNatClampNeg (a4 + 2)) 0) t c ∧ ¬ qtwin (fun r => mem (16 + 3 * t + 2) (r * 3 + c)) (row t) ∧ m = mup mem (16 + 3 * t + 1) c 1)
    (B1 := fun m s => s = sw ∧ m = mem ∧ ∀ t c, ¬ qcol cnt col (xs.getD (Int32.toNatClampNeg (a4 + 1)) 0) (xs.getD (Int32.toNatClampNeg (a4 + 2)) 0) t c)
    (B2 := fun m s => s = sw ∧ m = mem ∧ ∃ t c, qcol cnt col (xs.getD (Int32.toNatClampNeg (a4 + 1)) 0) (xs.getD (Int32.toNatClampNeg (a4 + 2)) 0) t c ∧ qtwin (fun r => mem (16 + 3 * t + 2) (r * 3 + c)) (row t))
    hX hS hw5 hw6 i1 i2 ?_ ?_ ?_ ?_ (fun m s o' e' w5 w6 a b c n => nx m s o' e' w5 w6 a b c n)
  · intro Q k t1 t2
    exact cBp_key (row := row) hX h4 hc1 (fun i hi => ⟨(h1 i hi).1, (h1 i hi).2.2.1⟩) (fun i hi => ⟨(h1 i hi).2.2.2.1, (h1 i hi).2.2.2.2.2.1⟩) he (fun t c x y => k _ _ ⟨rfl, t, c, x, y, rfl⟩) (fun t c x y => t2 _ _ ⟨rfl, rfl, t, c, x, y⟩) (fun x => t1 _ _ ⟨rfl, rfl, x⟩)
  · rintro m s o' ⟨rfl, t, c, hq, hn, rfl⟩ Q k
    have ht : t < 4 := Nat.lt_of_lt_of_le hq.2.2.1 h4
    have hg : ∀ t' c', qcol cnt col (xs.getD (Int32.toNatClampNeg (a4 + 1)) 0) (xs.getD (Int32.toNatClampNeg (a4 + 2)) 0) t' c' → t' = t ∧ c' = c := fun t' c' h' => qcol_u h4 c3 hq h'
    have hcc : c < 3 := Nat.lt_of_lt_of_le hq.2.2.2 (c3 t ht)
    have ne : ∀ j q, 28 ≤ j → mup mem (16 + 3 * t + 1) c 1 j q = mem j q := fun j q hj => by rw [mup_q, if_neg (by omega)]
    refine cMo_key (d := d + 6) (cnt := cnt) (col := col) (row := row) hX h4 (by rw [ne _ _ (by omega)]; exact hc2) (fun i hi => ⟨by rw [ne _ _ (by omega)]; exact (h1 i hi).2.1, c3 i hi⟩) (fun i hi => ⟨by rw [ne _ _ (by omega)]; exact (h1 i hi).2.2.2.2.1, (h1 i hi).2.2.2.2.2.1⟩) ?_ ?_ ?_
    · intro t' c' h' _
      obtain ⟨rfl, rfl⟩ := hg t' c' h'
      refine k _ (by rw [mup_q, if_neg (by omega), mup_at]) ⟨cnt, col, row, qT_key hT hq.2.2.1 hq.2.2.2, hT0, qR_tab0 (fun j q x y z => ?_) hR⟩
      rw [mup_q, if_neg (by omega), mup_q, if_neg (by omega), mup_q, if_neg (by omega)]
    · intro t' c' h' hz
      obtain ⟨rfl, rfl⟩ := hg t' c' h'
      refine absurd (qtwin_c (fun i hi => ?_) hz) hn
      have hr := (h1 t' ht).2.2.2.2.2.1
      have h7 := (h1 t' ht).2.2.2.2.2.2.1 (i * 3 + c') (by omega)
      show mup mem (16 + 3 * t' + 1) c' 1 196 (24 * t' + 3 * i + c') = mem (16 + 3 * t' + 2) (i * 3 + c')
      rw [ne _ _ (by omega), h7]
      congr 1
      omega
    · intro hz
      exact absurd hq (hz t c)
  · rintro m s e' ⟨rfl, rfl, hn⟩ Q k
    refine cMo_key (d := d + 6) (cnt := cnt) (col := col) (row := row) hX h4 hc2 (fun i hi => ⟨(h1 i hi).2.1, c3 i hi⟩) (fun i hi => ⟨(h1 i hi).2.2.2.2.1, (h1 i hi).2.2.2.2.2.1⟩) (fun t c h' _ => absurd h' (hn t c)) (fun t c h' _ => absurd h' (hn t c)) (fun _ => k _ (mup_at _ _ _ _) (qI_code _ ⟨cnt, col, row, hT, hT0, hR⟩))
  · rintro m s e' ⟨rfl, rfl, t, c, hq, hn⟩ Q k
    have ht : t < 4 := Nat.lt_of_lt_of_le hq.2.2.1 h4
    have hcc : c < 3 := Nat.lt_of_lt_of_le hq.2.2.2 (c3 t ht)
    refine cMo_key (d := d + 6) (cnt := cnt) (col := col) (row := row) hX h4 hc2 (fun i hi => ⟨(h1 i hi).2.1, c3 i hi⟩) (fun i hi => ⟨(h1 i hi).2.2.2.2.1, (h1 i hi).2.2.2.2.2.1⟩) ?_ (fun t c h' _ => k _ (mup_at _ _ _ _) (qI_code _ ⟨cnt, col, row, hT, hT0, hR⟩)) (fun hz => absurd hq (hz t c))
    intro t' c' h' hz
    obtain ⟨rfl, rfl⟩ := qcol_u h4 c3 hq h'
    refine absurd (qtwin_c (fun i hi => ?_) hn) hz
    have hr := (h1 t' ht).2.2.2.2.2.1
    have h7 := (h1 t' ht).2.2.2.2.2.2.1 (i * 3 + c') (by omega)
    show m (16 + 3 * t' + 2) (i * 3 + c') = m 196 (24 * t' + 3 * i + c')
    rw [h7]
    congr 1
    omega
theorem hLa_table (hX : X.length = 13) (hS : X[0]? = some (80, xs.map Value.int)) (hw5 : qfr w5) (hw6 : qfr w6) (i1 : inx (a4 + 1) xs.length) (he : e.length < 10000) (hI : qI mem sw) (nx : lNx (d + 8) P X a4 (e.length + 1)) : QW (d + 8) mLa_law 112 (lLa_law_112 a4 w5 w6) [] (hpo X mem sw o e) P := by
  obtain ⟨cnt, col, row, hT, hT0, hR⟩ := hI
  have hT' := hT
  obtain ⟨h4, hc1, hc2, h1⟩ := hT'
  refine gLa_table (d := d + 6) (I := qI)
    (A := fun w m s => s = sw ∧ (¬ (xs.getD (Int32.toNatClampNeg (a4 + 1)) 0) < 1 ∧ (xs.getD (Int32.toNatClampNeg (a4 + 1)) 0) ≤ 3) ∧ cnt < 4 ∧ w = qi cnt ∧ m = mup (mup mem (16 + 3 * cnt) 0 (xs.getD (Int32.toNatClampNeg (a4 + 1)) 0)) 14 1 (qi (cnt + 1)))
    (B1 := fun m s => s = sw ∧ m = mem ∧ ¬ (¬ (xs.getD (Int32.toNatClampNeg (a4 + 1)) 0) < 1 ∧ (xs.getD (Int32.toNatClampNeg (a4 + 1)) 0) ≤ 3))
    (B2 := fun m s => s = sw ∧ m = mem ∧ (¬ (xs.getD (Int32.toNatClampNeg (a4 + 1)) 0) < 1 ∧ (xs.getD (Int32.toNatClampNeg (a4 + 1)) 0) ≤ 3) ∧ cnt = 4)
    hX hS hw5 hw6 i1 ?_ ?_ ?_ ?_ (fun m s o' e' w5 w6 a b c n => nx m s o' e' w5 w6 a b c n)
  · intro Q k t1 t2
    exact cBp_table (d := d + 5) hX h4 hc1 he (fun x => t1 _ _ ⟨rfl, rfl, x⟩) (fun x y => t2 _ _ ⟨rfl, rfl, x, y⟩) (fun x y => k _ _ _ ⟨rfl, x, y, rfl, rfl⟩)
  · rintro w m s o' ⟨rfl, hv, hc, rfl, rfl⟩ Q k
    have hp : ¬ (xs.getD (Int32.toNatClampNeg (a4 + 1)) 0) < 0 := fun hz => hv.1 (Int32.lt_trans hz (by decide))
    obtain ⟨a, ha, hx⟩ := qi_of hp
    have ha3 : a ≤ 3 := by
      have := hv.2
      rw [hx] at this
      exact (qi_le ha (b := 3) (by omega)).mp this
    have ne : ∀ j q, 28 ≤ j → mup (mup mem (16 + 3 * cnt) 0 (xs.getD (Int32.toNatClampNeg (a4 + 1)) 0)) 14 1 (qi (cnt + 1)) j q = mem j q := fun j q hj => by rw [mup_q, if_neg (by omega), mup_q, if_neg (by omega)]
    refine cMo_table (cnt := cnt) hX h4 (by rw [ne _ _ (by omega)]; exact hc2) (fun hz => absurd hv hz) (fun _ hz => absurd hz (by omega)) (fun _ _ => k _ (by rw [mup_q, if_neg (by omega), mup_q, if_neg (by omega), mup_at]) ⟨cnt + 1, fun i => if i = cnt then a else col i, row, ?_, qT0_table hT0, qR_tab (fun j q x y z => ?_) (by omega) (fun i hi => if_neg (by omega)) hR⟩)
    · rw [hx]
      exact qT_table hT hc ha3 ⟨(hT0 cnt (Nat.le_refl _) hc).2, (hT0 cnt (Nat.le_refl _) hc).1⟩ (qT_keys0 hT hT0 hc)
    · rw [mup_q, if_neg (by omega), mup_q, if_neg (by omega), mup_q, if_neg (by omega), mup_q, if_neg (by omega), mup_q, if_neg (by omega)]
  · rintro m s e' ⟨rfl, rfl, hv⟩ Q k
    exact cMo_table (cnt := cnt) hX h4 hc2 (fun _ => k _ _ (mup_at _ _ _ _) (qI_code _ ⟨cnt, col, row, hT, hT0, hR⟩)) (fun hz => absurd hz hv) (fun hz => absurd hz hv)
  · rintro m s e' ⟨rfl, rfl, hv, hc⟩ Q k
    exact cMo_table (cnt := cnt) hX h4 hc2 (fun hz => absurd hv hz) (fun _ _ => k _ _ (mup_at _ _ _ _) (qI_code _ ⟨cnt, col, row, hT, hT0, hR⟩)) (fun _ hz => absurd hc (by omega))
theorem qins {t co ro : Nat} {x y z : Int32} (h : qT1 mem t co ro) : (∃ k, k < 3 ∧ ¬ mem (16 + 3 * t + 1) k = 0 ∧ ∃ i, i < ro ∧ mem (16 + 3 * t + 2) (i * 3 + k) = vl x y z k) ↔ (∃ k, k < co ∧ ¬ mem 197 (3 * t + k) = 0 ∧ ∃ i, i < ro ∧ mem 196 (24 * t + 3 * i + k) = vl x y z k) := by
  obtain ⟨g1, g2, g3, g4, g5, g6, g7, g8, g9⟩ := h
  constructor
  · rintro ⟨k, hk, hn, i, hi, hv⟩
    refine ⟨k, ?_, by rw [← g8 k hk]; exact hn, i, hi, ?_⟩
    · exact Nat.lt_of_not_le fun hz => hn (g9 k hk hz)
    · rw [← hv, g7 (i * 3 + k) (by omega)]
      congr 1
      omega
  · rintro ⟨k, hk, hn, i, hi, hv⟩
    refine ⟨k, by omega, by rw [g8 k (by omega)]; exact hn, i, hi, ?_⟩
    rw [← hv, g7 (i * 3 + k) (by omega)]
    congr 1
    omega
theorem hLa_insert (hX : X.length = 13) (hS : X[0]? = some (80, xs.map Value.int)) (hw5 : qfr w5) (hw6 : qfr w6) (i1 : inx (a4 + 1) xs.length) (i2 : inx (a4 + 2) xs.length) (i3 : inx (a4 + 3) xs.length) (i4 : inx (a4 + 4) xs.length) (he : e.length < 10000) (hI : qI mem sw) (nx : lNx (d + 8) P X a4 (e.length + 1)) : QW (d + 8) mLa_law 216 (lLa_law_216 a4 w5 w6) [] (hpo X mem sw o e) P := by
  obtain ⟨cnt, col, row, hT, hT0, hR⟩ := hI
  have hT' := hT
  obtain ⟨h4, hc1, hc2, h1⟩ := hT'
  have c3 : ∀ i, i < 4 → col i ≤ 3 := fun i hi => (h1 i hi).2.2.1
  refine gLa_insert (d := d + 6) (I := qI)
    (A := fun w m s => s = sw ∧ ∃ t, t < cnt ∧ (xs.getD (Int32.toNatClampNeg (a4 + 1)) 0) = qi t ∧ row t < 8 ∧ ¬ (∃ k, k < 3 ∧ ¬ mem (16 + 3 * t + 1) k = 0 ∧ ∃ i, i < row t ∧ mem (16 + 3 * t + 2) (i * 3 + k) = vl (xs.getD (Int32.toNatClampNeg (a4 + 2)) 0) (xs.getD (Int32.toNatClampNeg (a4 + 3)) 0) (xs.getD (Int32.toNatClampNeg (a4 + 4)) 0) k) ∧ w = qi (row t + 1) ∧ m = mrow mem (16 + 3 * t + 2) (row t * 3) (xs.getD (Int32.toNatClampNeg (a4 + 2)) 0) (xs.getD (Int32.toNatClampNeg (a4 + 3)) 0) (xs.getD (Int32.toNatClampNeg (a4 + 4)) 0) (16 + 3 * t) 1 (qi (row t + 1)))
    (B1 := fun m s => s = sw ∧ m = mem ∧ ∀ t, t < cnt → ¬ (xs.getD (Int32.toNatClampNeg (a4 + 1)) 0) = qi t)
    (B2 := fun m s => s = sw ∧ m = mem ∧ ∃ t, t < cnt ∧ (xs.getD (Int32.toNatClampNeg (a4 + 1)) 0) = qi t ∧ (row t = 8 ∨ (∃ k, k < 3 ∧ ¬ mem (16 + 3 * t + 1) k = 0 ∧ ∃ i, i < row t ∧ mem (16 + 3 * t + 2) (i * 3 + k) = vl (xs.getD (Int32.toNatClampNeg (a4 + 2)) 0) (xs.getD (Int32.toNatClampNeg (a4 + 3)) 0) (xs.getD (Int32.toNatClampNeg (a4 + 4)) 0) k)))
    hX hS hw5 hw6 i1 i2 i3 i4 ?_ ?_ ?_ ?_ (fun m s o' e' w5 w6 a b c n => nx m s o' e' w5 w6 a b c n)
  · intro Q k t1 t2
    refine cBp_insert (d := d + 3) (row := row) hX h4 hc1 (fun i hi => ⟨(h1 i hi).2.2.2.1, (h1 i hi).2.2.2.2.2.1⟩) he (fun x => t1 _ _ ⟨rfl, rfl, x⟩) (fun t x y z => t2 _ _ ⟨rfl, rfl, t, x, y, z⟩) (fun t x y z hh => k _ _ _ ⟨rfl, t, x, y, z, ?_, rfl, rfl⟩)
    rintro ⟨k, hk, hn, i, hi, hv⟩
    rcases hh k hk with h0 | h0
    · exact hn h0
    · exact h0 i hi hv
  · rintro w m s o' ⟨rfl, t, ht, hat, hr, hno, rfl, rfl⟩ Q k
    have htt : t < 4 := by omega
    have hg : ∀ t', t' < cnt → (xs.getD (Int32.toNatClampNeg (a4 + 1)) 0) = qi t' → t' = t := fun t' h' h2 => qi_inj (by omega) (by omega) (h2.symm.trans hat)
    have ne : ∀ j q, 28 ≤ j → mrow mem (16 + 3 * t + 2) (row t * 3) (xs.getD (Int32.toNatClampNeg (a4 + 2)) 0) (xs.getD (Int32.toNatClampNeg (a4 + 3)) 0) (xs.getD (Int32.toNatClampNeg (a4 + 4)) 0) (16 + 3 * t) 1 (qi (row t + 1)) j q = mem j q := fun j q hj => by rw [mrow_q, if_neg (by omega), if_neg (by omega), if_neg (by omega), if_neg (by omega)]
    refine cMo_insert (d := d + 6) (cnt := cnt) (col := col) (row := row) hX h4 (by rw [ne _ _ (by omega)]; exact hc2) (fun i hi => ⟨by rw [ne _ _ (by omega)]; exact (h1 i hi).2.1, c3 i hi⟩) (fun i hi => ⟨by rw [ne _ _ (by omega)]; exact (h1 i hi).2.2.2.2.1, (h1 i hi).2.2.2.2.2.1⟩) (fun hz => absurd hat (hz t ht)) ?_ ?_
    · intro t' x y hz
      obtain rfl := hg t' x y
      rcases hz with hz | ⟨k, hk, hn, i, hi, hv⟩
      · omega
      · rw [ne _ _ (by omega)] at hn hv
        exact absurd ((qins (h1 t' htt)).mpr ⟨k, hk, hn, i, hi, hv⟩) hno
    · intro t' x y _ _
      obtain rfl := hg t' x y
      refine k _ (by rw [mrow_q, if_neg (by omega), if_neg (by omega), if_neg (by omega), if_neg (by omega), mup_at]) ⟨cnt, col, fun i => if i = t' then row t' + 1 else row i, qT_insert hT ht hr, qT0_row hT0 ht, qR_tab0 (fun j q x y z => ?_) hR⟩
      rw [mrow_q, if_neg (by omega), if_neg (by omega), if_neg (by omega), if_neg (by omega), mup_q, if_neg (by omega), mrow_q, if_neg (by omega), if_neg (by omega), if_neg (by omega), if_neg (by omega)]
  · rintro m s e' ⟨rfl, rfl, hn⟩ Q k
    exact cMo_insert (d := d + 6) (cnt := cnt) (col := col) (row := row) hX h4 hc2 (fun i hi => ⟨(h1 i hi).2.1, c3 i hi⟩) (fun i hi => ⟨(h1 i hi).2.2.2.2.1, (h1 i hi).2.2.2.2.2.1⟩) (fun _ => k _ _ (mup_at _ _ _ _) (qI_code _ ⟨cnt, col, row, hT, hT0, hR⟩)) (fun t x y => absurd y (hn t x)) (fun t x y => absurd y (hn t x))
  · rintro m s e' ⟨rfl, rfl, t, ht, hat, hz⟩ Q k
    have hg : ∀ t', t' < cnt → (xs.getD (Int32.toNatClampNeg (a4 + 1)) 0) = qi t' → t' = t := fun t' h' h2 => qi_inj (by omega) (by omega) (h2.symm.trans hat)
    refine cMo_insert (d := d + 6) (cnt := cnt) (col := col) (row := row) hX h4 hc2 (fun i hi => ⟨(h1 i hi).2.1, c3 i hi⟩) (fun i hi => ⟨(h1 i hi).2.2.2.2.1, (h1 i hi).2.2.2.2.2.1⟩) (fun h0 => absurd hat (h0 t ht)) (fun _ _ _ _ => k _ _ (mup_at _ _ _ _) (qI_code _ ⟨cnt, col, row, hT, hT0, hR⟩)) ?_
    intro t' x y h8 hh
    obtain rfl := hg t' x y
    exfalso
    rcases hz with hz | hz
    · omega
    · obtain ⟨k, hk, hn, i, hi, hv⟩ := (qins (h1 t' (by omega))).mp hz
      rcases hh k hk with h0 | h0
      · exact hn h0
      · exact h0 i hi hv
theorem hLa_delete (hX : X.length = 13) (hS : X[0]? = some (80, xs.map Value.int)) (hw5 : qfr w5) (hw6 : qfr w6) (i1 : inx (a4 + 1) xs.length) (i2 : inx (a4 + 2) xs.length) (i3 : inx (a4 + 3) xs.length) (he : e.length < 10000) (hI : qI mem sw) (nx : lNx (d + 8) P X a4 (e.length + 1)) : QW (d + 8) mLa_law 308 (lLa_law_308 a4 w5 w6) [] (hpo X mem sw o e) P := by
  obtain ⟨cnt, col, row, hT, hT0, hR⟩ := hI
  have hT' := hT
  obtain ⟨h4, hc1, hc2, h1⟩ := hT'
  have c3 : ∀ i, i < 4 → col i ≤ 3 := fun i hi => (h1 i hi).2.2.1
  refine gLa_delete (d := d + 6) (I := qI)
    (A := fun w m s => s = sw ∧ ∃ t c, qcol cnt col (xs.getD (Int32.toNatClampNeg (a4 + 1)) 0) (xs.getD (Int32.toNatClampNeg (a4 + 2)) 0) t c ∧ w = qi (row t - (dlt (mem (16 + 3 * t + 2)) c (xs.getD (Int32.toNatClampNeg (a4 + 3)) 0) (row t)).1) ∧ m = md1 mem t (dlt (mem (16 + 3 * t + 2)) c (xs.getD (Int32.toNatClampNeg (a4 + 3)) 0) (row t)))
    (B1 := fun m s => s = sw ∧ m = mem ∧ ∀ t c, ¬ qcol cnt col (xs.getD (Int32.toNatClampNeg (a4 + 1)) 0) (xs.getD (Int32.toNatClampNeg (a4 + 2)) 0) t c)
    hX hS hw5 hw6 i1 i2 i3 ?_ ?_ ?_ (fun m s o' e' w5 w6 a b c n => nx m s o' e' w5 w6 a b c n)
  · intro Q k t1
    exact cBp_delete (d := d + 4) (row := row) hX h4 hc1 (fun i hi => ⟨(h1 i hi).1, (h1 i hi).2.2.1⟩) (fun i hi => ⟨(h1 i hi).2.2.2.1, (h1 i hi).2.2.2.2.2.1⟩) he (fun t c x => k _ _ _ ⟨rfl, t, c, x, rfl, rfl⟩) (fun x => t1 _ _ ⟨rfl, rfl, x⟩)
  · rintro w m s o' ⟨rfl, t, c, hq, rfl, rfl⟩ Q k
    have ht : t < 4 := Nat.lt_of_lt_of_le hq.2.2.1 h4
    have hcc : c < 3 := Nat.lt_of_lt_of_le hq.2.2.2 (c3 t ht)
    have hr := (h1 t ht).2.2.2.2.2.1
    have h7 := (h1 t ht).2.2.2.2.2.2.1
    have ne : ∀ F j q, 28 ≤ j → md1 mem t F j q = mem j q := fun F j q hj => by rw [md1, mup_q, if_neg (by omega), msc_q, if_neg (by omega)]
    have hd := dlt_congr (c := c) (g := mem (16 + 3 * t + 2)) (g' := fun q => mem 196 (24 * t + q)) (v := xs.getD (Int32.toNatClampNeg (a4 + 3)) 0) h7 hcc (row t) hr
    have hf : (fun q => md1 mem t (dlt (mem (16 + 3 * t + 2)) c (xs.getD (Int32.toNatClampNeg (a4 + 3)) 0) (row t)) 196 (24 * t + q)) = fun q => mem 196 (24 * t + q) := funext fun q => ne _ _ _ (by omega)
    refine cMo_delete (d := d + 6) (cnt := cnt) (col := col) (row := row) hX h4 (by rw [ne _ _ _ (by omega)]; exact hc2) (fun i hi => ⟨by rw [ne _ _ _ (by omega)]; exact (h1 i hi).2.1, c3 i hi⟩) (fun i hi => ⟨by rw [ne _ _ _ (by omega)]; exact (h1 i hi).2.2.2.2.1, (h1 i hi).2.2.2.2.2.1⟩) ?_ (fun hz => absurd hq (hz t c))
    intro t' c' h'
    obtain ⟨rfl, rfl⟩ := qcol_u h4 c3 hq h'
    rw [hf, ← hd.1]
    have hle := dlt_le (mem (16 + 3 * t' + 2)) c' (xs.getD (Int32.toNatClampNeg (a4 + 3)) 0) (row t')
    have hk := qT_del2 (F := dlt (mem (16 + 3 * t' + 2)) c' (xs.getD (Int32.toNatClampNeg (a4 + 3)) 0) (row t')) (K := dlt (fun q => mem 196 (24 * t' + q)) c' (xs.getD (Int32.toNatClampNeg (a4 + 3)) 0) (row t')) hT hq.2.2.1 (by omega) hd.1 hd.2
    rw [md2, ← hd.1] at hk
    refine k _ ?_ ⟨cnt, col, _, hk, qT0_row hT0 hq.2.2.1, qR_tab0 (fun j q x y z => ?_) hR⟩
    · rw [mup_q, if_neg (by omega), mz_q (by omega), mup_at]
    · rw [mup_q, if_neg (by omega), mz_q (by omega), mup_q, if_neg (by omega), md1, mup_q, if_neg (by omega), msc_q, if_neg (by omega)]
  · rintro m s e' ⟨rfl, rfl, hn⟩ Q k
    exact cMo_delete (d := d + 6) (cnt := cnt) (col := col) (row := row) hX h4 hc2 (fun i hi => ⟨(h1 i hi).2.1, c3 i hi⟩) (fun i hi => ⟨(h1 i hi).2.2.2.2.1, (h1 i hi).2.2.2.2.2.1⟩) (fun t c h' => absurd h' (hn t c)) (fun _ => k _ _ (mup_at _ _ _ _) (qI_code _ ⟨cnt, col, row, hT, hT0, hR⟩))
theorem wrt_c {w : Int64} {L : Nat} {f g : Nat → Int32} (h : ∀ k, k < L → f k = g k ∧ ¬ f k < 32 ∧ f k ≤ 126) : ∀ i, (∀ j, j < i → okb w j) → ∀ k, k < L + cb w i → wrt w L f i k = wrt w L g i k ∧ ¬ wrt w L f i k < 32 ∧ wrt w L f i k ≤ 126
  | 0, _, k, hk => h k hk
  | i + 1, hj, k, hk => by
    have ih := wrt_c h i (fun j hx => hj j (by omega)) k
    have ho := hj i (by omega)
    have hk' : k < L + (cb w i + (if byt w i = 0 then 0 else 1)) := hk
    simp only [wrt]
    by_cases h0 : byt w i = 0
    · rw [if_pos h0] at hk'
      rw [if_pos h0, if_pos h0]
      exact ih hk'
    · rw [if_neg h0] at hk'
      rw [if_neg h0, if_neg h0]
      by_cases hq : k = L + cb w i
      · rw [if_pos hq, if_pos hq]
        exact ⟨rfl, (Or.resolve_left ho h0)⟩
      · rw [if_neg hq, if_neg hq]
        exact ih (by omega)
theorem mtx_q {ce le ls L j q : Nat} {f : Nat → Int32} : mtx mem ce le ls L f j q = if j = le ∧ q = ls then qi L else if j = ce then f q else mem j q := by
  rw [mtx, mup_q, msc_q]
theorem qI_oth {mem' : Nat → Nat → Int32} {cnt : Nat} {col row : Nat → Nat} (h : qT mem cnt col row) (h0 : qT0 mem cnt col row) (e1 : mem' 14 1 = mem 14 1) (e2 : mem' 193 1 = mem 193 1) (e3 : ∀ j q, (16 ≤ j ∧ j < 28) ∨ (194 ≤ j ∧ j < 198) → mem' j q = mem j q) (hR : qR mem' sw cnt col) : qI mem' sw := ⟨cnt, col, row, qT_other h e1 e2 e3, h0, hR⟩
theorem hLa_write (hX : X.length = 13) (hS : X[0]? = some (80, xs.map Value.int)) (hw5 : qfr w5) (hw6 : qfr w6) (i1 : inx (a4 + 1) xs.length) (i2 : inx (a4 + 2) xs.length) (hI : qI mem sw) (nx : lNx (d + 8) P X a4 (e.length + 1)) : QW (d + 8) mLa_law 388 (lLa_law_388 a4 w5 w6) [] (hpo X mem sw o e) P := by
  obtain ⟨cnt, col, row, hT, hT0, hR⟩ := hI
  have hR' := hR
  obtain ⟨⟨L, hL, hL1, hL2, hL3⟩, hp, hA, hQ⟩ := hR'
  refine gLa_write (d := d + 6) (I := fun m => qI m sw)
    (A := fun v m => (v = 1 ∧ (∀ i, i < 8 → okb (((Int32.toInt64 (xs.getD (Int32.toNatClampNeg (a4 + 1)) 0)) <<< ((Int32.toInt64 32) &&& 63)) ||| ((Int32.toInt64 (xs.getD (Int32.toNatClampNeg (a4 + 2)) 0)) &&& 4294967295)) i) ∧ L + cb (((Int32.toInt64 (xs.getD (Int32.toNatClampNeg (a4 + 1)) 0)) <<< ((Int32.toInt64 32) &&& 63)) ||| ((Int32.toInt64 (xs.getD (Int32.toNatClampNeg (a4 + 2)) 0)) &&& 4294967295)) 8 ≤ 200 ∧ m = mtx mem 29 28 1 (L + cb (((Int32.toInt64 (xs.getD (Int32.toNatClampNeg (a4 + 1)) 0)) <<< ((Int32.toInt64 32) &&& 63)) ||| ((Int32.toInt64 (xs.getD (Int32.toNatClampNeg (a4 + 2)) 0)) &&& 4294967295)) 8) (wrt (((Int32.toInt64 (xs.getD (Int32.toNatClampNeg (a4 + 1)) 0)) <<< ((Int32.toInt64 32) &&& 63)) ||| ((Int32.toInt64 (xs.getD (Int32.toNatClampNeg (a4 + 2)) 0)) &&& 4294967295)) L (mem 29) 8)) ∨ (v = 0 ∧ m = mem ∧ ((∃ i, i < 8 ∧ ¬ okb (((Int32.toInt64 (xs.getD (Int32.toNatClampNeg (a4 + 1)) 0)) <<< ((Int32.toInt64 32) &&& 63)) ||| ((Int32.toInt64 (xs.getD (Int32.toNatClampNeg (a4 + 2)) 0)) &&& 4294967295)) i) ∨ 200 < L + cb (((Int32.toInt64 (xs.getD (Int32.toNatClampNeg (a4 + 1)) 0)) <<< ((Int32.toInt64 32) &&& 63)) ||| ((Int32.toInt64 (xs.getD (Int32.toNatClampNeg (a4 + 2)) 0)) &&& 4294967295)) 8)))
    hX hS hw5 hw6 i1 i2 ?_ ?_ (fun m h => nx m sw o e w5 w6 hw5 hw6 h (by omega))
  · intro Q k
    exact cBp_write (d := d + 4) hX hL1 hL (fun x y => k _ _ (Or.inl ⟨rfl, x, y, rfl⟩)) (fun x => k _ _ (Or.inr ⟨rfl, rfl, x⟩))
  · rintro v m (⟨rfl, ho, hc, rfl⟩ | ⟨rfl, rfl, hn⟩) Q k
    · generalize (((Int32.toInt64 (xs.getD (Int32.toNatClampNeg (a4 + 1)) 0)) <<< ((Int32.toInt64 32) &&& 63)) ||| ((Int32.toInt64 (xs.getD (Int32.toNatClampNeg (a4 + 2)) 0)) &&& 4294967295)) = w at *
      have ne : ∀ (f : Nat → Int32) j q, ¬ j = 29 → ¬ (j = 28 ∧ q = 1) → mtx mem 29 28 1 (L + cb w 8) f j q = mem j q := fun f j q x y => by rw [mtx_q, if_neg y, if_neg x]
      refine cMo_write (L := L) hX (by rw [ne _ _ _ (by omega) (by omega)]; exact hL2) hL (fun _ _ => k _ ?_) (fun hz => ?_)
      · have e198 : mtx mem 29 28 1 (L + cb w 8) (wrt w L (mem 29) 8) 198 = mem 198 := funext fun q => ne _ _ _ (by omega) (by omega)
        rw [e198]
        have hq : ∀ j q, ¬ j = 29 → ¬ (j = 28 ∧ q = 1) → ¬ (j = 193 ∧ q = 0) → ¬ (j = 193 ∧ q = 6) → ¬ j = 198 → mtx (mup (mtx mem 29 28 1 (L + cb w 8) (wrt w L (mem 29) 8)) 193 0 0) 198 193 6 (L + cb w 8) (wrt w L (mem 198) 8) j q = mem j q := by
          intro j q x1 x2 x3 x4 x5
          rw [mtx_q, if_neg x4, if_neg x5, mup_q, if_neg x3, ne _ _ _ x1 x2]
        refine qI_oth hT hT0 (hq _ _ (by omega) (by omega) (by omega) (by omega) (by omega)) (hq _ _ (by omega) (by omega) (by omega) (by omega) (by omega)) (fun j q hj => hq _ _ (by omega) (by omega) (by omega) (by omega) (by omega)) ⟨⟨L + cb w 8, hc, ?_, ?_, fun x hx => ?_⟩, ?_, qAn_mono (fun j q a b => hq _ _ (by omega) (by omega) (by omega) (by omega) (by omega)) (fun q a b => hq _ _ (by omega) (by omega) (by omega) (by omega) (by omega)) (fun j q a b => hq _ _ (by omega) (by omega) (by omega) (by omega) (by omega)) hA, qQs_mono (hq _ _ (by omega) (by omega) (by omega) (by omega) (by omega)) (hq _ _ (by omega) (by omega) (by omega) (by omega) (by omega)) (fun j q a b => hq _ _ (by omega) (by omega) (by omega) (by omega) (by omega)) (fun j q a b => hq _ _ (by omega) (by omega) (by omega) (by omega) (by omega)) (Nat.le_refl _) (fun _ _ => rfl) hQ⟩
        · rw [mtx_q, if_neg (by omega), if_neg (by omega), mup_q, if_neg (by omega), mtx_q, if_pos ⟨rfl, rfl⟩]
        · rw [mtx_q, if_pos ⟨rfl, rfl⟩]
        · have h29 : mtx (mup (mtx mem 29 28 1 (L + cb w 8) (wrt w L (mem 29) 8)) 193 0 0) 198 193 6 (L + cb w 8) (wrt w L (mem 198) 8) 29 x = wrt w L (mem 29) 8 x := by
            rw [mtx_q, if_neg (by omega), if_neg (by omega), mup_q, if_neg (by omega), mtx_q, if_neg (by omega), if_pos rfl]
          have h198 : mtx (mup (mtx mem 29 28 1 (L + cb w 8) (wrt w L (mem 29) 8)) 193 0 0) 198 193 6 (L + cb w 8) (wrt w L (mem 198) 8) 198 x = wrt w L (mem 198) 8 x := by
            rw [mtx_q, if_neg (by omega), if_pos rfl]
          rw [h29, h198]
          exact wrt_c hL3 8 ho x hx
        · rw [hq _ _ (by omega) (by omega) (by omega) (by omega) (by omega), hq _ _ (by omega) (by omega) (by omega) (by omega) (by omega)]
          exact hp
      · exfalso
        rcases hz with ⟨i, hi, hz⟩ | hz
        · exact hz (ho i hi)
        · omega
    · refine cMo_write (L := L) hX hL2 hL (fun x y => ?_) (fun _ => k _ (qI_code _ ⟨cnt, col, row, hT, hT0, hR⟩))
      exfalso
      rcases hn with ⟨i, hi, hz⟩ | hz
      · exact hz (x i hi)
      · omega
theorem hLa_wipe (hX : X.length = 13) (hS : X[0]? = some (80, xs.map Value.int)) (hw5 : qfr w5) (hw6 : qfr w6) (hI : qI mem sw) (nx : lNx (d + 8) P X a4 (e.length + 1)) : QW (d + 8) mLa_law 445 (lLa_law_445 a4 w5 w6) [] (hpo X mem sw o e) P := by
  obtain ⟨cnt, col, row, hT, hT0, hR⟩ := hI
  obtain ⟨⟨L, hL, hL1, hL2, hL3⟩, hp, hA, hQ⟩ := hR
  refine gLa_wipe (d := d + 6) (I := fun m => qI m sw) (A := fun v m => v = qi L ∧ m = mup mem 28 1 0) hX hS hw5 hw6 ?_ ?_ (fun m h => nx m sw o e w5 w6 hw5 hw6 h (by omega))
  · intro Q k
    exact cBp_wipe (d := d + 6) hX (k _ _ ⟨hL1, rfl⟩)
  · rintro v m ⟨rfl, rfl⟩ Q k
    refine bMo_wipe_0 hX ?_
    have hq : ∀ j q, ¬ (j = 28 ∧ q = 1) → ¬ (j = 193 ∧ q = 0) → ¬ (j = 193 ∧ q = 6) → mup (mup (mup mem 28 1 0) 193 0 0) 193 6 0 j q = mem j q := by
      intro j q x1 x2 x3
      rw [mup_q, if_neg x3, mup_q, if_neg x2, mup_q, if_neg x1]
    rw [show mup (mup mem 28 1 0) 193 0 0 193 6 = qi L by rw [mup_q, if_neg (by omega), mup_q, if_neg (by omega)]; exact hL2]
    refine k _ (qI_oth hT hT0 (hq _ _ (by omega) (by omega) (by omega)) (hq _ _ (by omega) (by omega) (by omega)) (fun j q hj => hq _ _ (by omega) (by omega) (by omega)) ⟨⟨0, by omega, ?_, mup_at _ _ _ _, fun x hx => absurd hx (by omega)⟩, ?_, qAn_mono (fun j q a b => hq _ _ (by omega) (by omega) (by omega)) (fun q a b => hq _ _ (by omega) (by omega) (by omega)) (fun j q a b => hq _ _ (by omega) (by omega) (by omega)) hA, qQs_mono (hq _ _ (by omega) (by omega) (by omega)) (hq _ _ (by omega) (by omega) (by omega)) (fun j q a b => hq _ _ (by omega) (by omega) (by omega)) (fun j q a b => hq _ _ (by omega) (by omega) (by omega)) (Nat.le_refl _) (fun _ _ => rfl) hQ⟩)
    · rw [mup_q, if_neg (by omega), mup_q, if_neg (by omega), mup_at]
      rfl
    · rw [hq _ _ (by omega) (by omega) (by omega), hq _ _ (by omega) (by omega) (by omega)]
      exact hp
theorem hLa_place (hX : X.length = 13) (hS : X[0]? = some (80, xs.map Value.int)) (hw5 : qfr w5) (hw6 : qfr w6) (hI : qI mem sw) (nx : lNx (d + 8) P X a4 (e.length + 1)) : QW (d + 8) mLa_law 502 (lLa_law_502 a4 w5 w6) [] (hpo X mem sw o e) P := by
  have hI' := hI
  obtain ⟨cnt, col, row, hT, hT0, hR⟩ := hI'
  refine gLa_place (d := d + 6) (I := fun m => qI m sw) (A := fun v m => v = mem 13 5 ∧ m = mem) hX hS hw5 hw6 ?_ ?_ (fun m h => nx m sw o e w5 w6 hw5 hw6 h (by omega))
  · intro Q k
    exact bBp_place_0 hX (k _ _ ⟨rfl, rfl⟩)
  · rintro v m ⟨rfl, rfl⟩ Q k
    refine bMo_place_0 hX ?_
    rw [show mup m 193 0 0 193 8 = m 13 5 by rw [mup_q, if_neg (by omega)]; exact hR.2.1.symm]
    exact k _ (qI_code _ hI)
theorem hLa_forget (hX : X.length = 13) (hS : X[0]? = some (80, xs.map Value.int)) (hw5 : qfr w5) (hw6 : qfr w6) (hI : qI mem sw) (nx : lNx (d + 8) P X a4 (e.length + 1)) : QW (d + 8) mLa_law 515 (lLa_law_515 a4 w5 w6) [] (hpo X mem sw o e) P := by
  obtain ⟨cnt, col, row, hT, hT0, hR⟩ := hI
  obtain ⟨hTx, hp, hA, nq, hq1, hq2, hq3, hq4, hq5⟩ := hR
  refine gLa_forget (d := d + 6) (I := fun m => qI m sw) (A := fun v m => v = qi nq ∧ m = mup mem 13 4 0) hX hS hw5 hw6 ?_ ?_ (fun m h => nx m sw o e w5 w6 hw5 hw6 h (by omega))
  · intro Q k
    exact bBp_forget_0 hX (k _ _ ⟨hq2, rfl⟩)
  · rintro v m ⟨rfl, rfl⟩ Q k
    refine bMo_forget_0 hX ?_
    have hq : ∀ j q, ¬ (j = 13 ∧ q = 4) → ¬ (j = 193 ∧ q = 0) → ¬ (j = 193 ∧ q = 13) → mup (mup (mup mem 13 4 0) 193 0 0) 193 13 0 j q = mem j q := by
      intro j q x1 x2 x3
      rw [mup_q, if_neg x3, mup_q, if_neg x2, mup_q, if_neg x1]
    rw [show mup (mup mem 13 4 0) 193 0 0 193 13 = qi nq by rw [mup_q, if_neg (by omega), mup_q, if_neg (by omega)]; exact hq3]
    refine k _ (qI_oth hT hT0 (hq _ _ (by omega) (by omega) (by omega)) (hq _ _ (by omega) (by omega) (by omega)) (fun j q hj => hq _ _ (by omega) (by omega) (by omega)) ⟨qTx_mono (hq _ _ (by omega) (by omega) (by omega)) (hq _ _ (by omega) (by omega) (by omega)) (fun k => hq _ _ (by omega) (by omega) (by omega)) (fun k => hq _ _ (by omega) (by omega) (by omega)) hTx, ?_, qAn_mono (fun j q a b => hq _ _ (by omega) (by omega) (by omega)) (fun q a b => hq _ _ (by omega) (by omega) (by omega)) (fun j q a b => hq _ _ (by omega) (by omega) (by omega)) hA, 0, by omega, ?_, mup_at _ _ _ _, fun q hz => absurd hz (by omega), fun q => by rw [hq _ _ (by omega) (by omega) (by omega), hq _ _ (by omega) (by omega) (by omega)]; exact hq5 q⟩)
    · rw [hq _ _ (by omega) (by omega) (by omega), hq _ _ (by omega) (by omega) (by omega)]
      exact hp
    · rw [mup_q, if_neg (by omega), mup_q, if_neg (by omega), mup_at]
      rfl
theorem sm_c {f g : Nat → Int32} : ∀ n, (∀ i, i < n → f i = g i) → sm f n = sm g n
  | 0, _ => rfl
  | n + 1, h => by
    have := sm_c n (fun i hi => h i (by omega))
    simp only [sm, this, h n (by omega)]
theorem hLa_total (hX : X.length = 13) (hS : X[0]? = some (80, xs.map Value.int)) (hw5 : qfr w5) (hw6 : qfr w6) (hI : qI mem sw) (nx : lNx (d + 8) P X a4 (e.length + 1)) : QW (d + 8) mLa_law 708 (lLa_law_708 a4 w5 w6) [] (hpo X mem sw o e) P := by
  have hI' := hI
  obtain ⟨cnt, col, row, hT, hT0, hTx, hp, ⟨n, wd, a1, a2, a3, a4', a5, a6, a7, a8⟩, hQ⟩ := hI'
  refine gLa_total (d := d + 6) (I := fun m => qI m sw) (A := fun v m => v = sm (mem (swp sw 161 + 2)) n ∧ m = mem) hX hS hw5 hw6 ?_ ?_ (fun m h => nx m sw o e w5 w6 hw5 hw6 h (by omega))
  · intro Q k
    exact cBp_total (d := d + 6) hX a3 a1 (k _ _ ⟨rfl, rfl⟩)
  · rintro v m ⟨rfl, rfl⟩ Q k
    refine cMo_total (n := n) hX a5 a1 ?_
    rw [← sm_c n a8.1]
    exact k _ (qI_code _ hI)
theorem hLa_times (hX : X.length = 13) (hS : X[0]? = some (80, xs.map Value.int)) (hw5 : qfr w5) (hw6 : qfr w6) (i1 : inx (a4 + 1) xs.length) (he : e.length < 10000) (hI : qI mem sw) (nx : lNx (d + 8) P X a4 (e.length + 1)) : QW (d + 8) mLa_law 652 (lLa_law_652 a4 w5 w6) [] (hpo X mem sw o e) P := by
  have hI' := hI
  obtain ⟨cnt, col, row, hT, hT0, hTx, hp, ⟨n, wd, a1, a2, a3, a4', a5, a6, a7, a8⟩, hQ⟩ := hI'
  refine gLa_times (d := d + 6) (I := qI)
    (A := fun w m s => s = sw ∧ m = mem ∧ ∃ i, i < n ∧ (xs.getD (Int32.toNatClampNeg (a4 + 1)) 0) = qi i ∧ w = mem (swp sw 161 + 2) i)
    (B1 := fun m s => s = sw ∧ m = mem ∧ ∀ i, i < n → ¬ (xs.getD (Int32.toNatClampNeg (a4 + 1)) 0) = qi i)
    hX hS hw5 hw6 i1 ?_ ?_ ?_ (fun m s o' e' w5 w6 a b c n => nx m s o' e' w5 w6 a b c n)
  · intro Q k t1
    exact cBp_times (d := d + 5) hX a3 a1 he (fun i x y => k _ _ _ ⟨rfl, rfl, i, x, y, rfl⟩) (fun x => t1 _ _ ⟨rfl, rfl, x⟩)
  · rintro w m s o' ⟨rfl, rfl, i, hi, hx, rfl⟩ Q k
    refine cMo_times (n := n) hX a5 a1 ?_ (fun hz => absurd hx (hz i hi))
    intro i' hi' hx'
    obtain rfl : i' = i := qi_inj (by omega) (by omega) (hx'.symm.trans hx)
    rw [← a8.1 i' hi]
    exact k _ (mup_at _ _ _ _) (qI_code _ hI)
  · rintro m s e' ⟨rfl, rfl, hn⟩ Q k
    exact cMo_times (n := n) hX a5 a1 (fun i x y => absurd y (hn i x)) (fun _ => k _ _ (mup_at _ _ _ _) (qI_code _ hI))
theorem hLa_row (hX : X.length = 13) (hS : X[0]? = some (80, xs.map Value.int)) (hw5 : qfr w5) (hw6 : qfr w6) (i1 : inx (a4 + 1) xs.length) (i2 : inx (a4 + 2) xs.length) (he : e.length < 10000) (hI : qI mem sw) (nx : lNx (d + 8) P X a4 (e.length + 1)) : QW (d + 8) mLa_law 584 (lLa_law_584 a4 w5 w6) [] (hpo X mem sw o e) P := by
  have hI' := hI
  obtain ⟨cnt, col, row, hT, hT0, hTx, hp, ⟨n, wd, a1, a2, a3, a4', a5, a6, a7, a8⟩, hQ⟩ := hI'
  refine gLa_row (d := d + 6) (I := qI)
    (A := fun w m s => s = sw ∧ m = mem ∧ ∃ i c, qrc n wd (xs.getD (Int32.toNatClampNeg (a4 + 1)) 0) (xs.getD (Int32.toNatClampNeg (a4 + 2)) 0) i c ∧ w = mem (swp sw 161 + 1) (3 * i + c))
    (B1 := fun m s => s = sw ∧ m = mem ∧ ∀ i c, ¬ qrc n wd (xs.getD (Int32.toNatClampNeg (a4 + 1)) 0) (xs.getD (Int32.toNatClampNeg (a4 + 2)) 0) i c)
    hX hS hw5 hw6 i1 i2 ?_ ?_ ?_ (fun m s o' e' w5 w6 a b c n => nx m s o' e' w5 w6 a b c n)
  · intro Q k t1
    exact cBp_row (d := d + 5) hX a3 a1 a4' a2 he (fun i c x => k _ _ _ ⟨rfl, rfl, i, c, x, rfl⟩) (fun x => t1 _ _ ⟨rfl, rfl, x⟩)
  · rintro w m s o' ⟨rfl, rfl, i, c, hx, rfl⟩ Q k
    refine cMo_row (n := n) (wd := wd) hX a5 a1 a6 a2 ?_ (fun hz => absurd hx (hz i c))
    intro i' c' hx'
    obtain ⟨x1, x2, x3, x4⟩ := hx
    obtain ⟨y1, y2, y3, y4⟩ := hx'
    obtain rfl : i' = i := qi_inj (by omega) (by omega) (y1.symm.trans x1)
    obtain rfl : c' = c := qi_inj (by omega) (by omega) (y2.symm.trans x2)
    rw [← a7 i' c' x3 x4]
    exact k _ (mup_at _ _ _ _) (qI_code _ hI)
  · rintro m s e' ⟨rfl, rfl, hn⟩ Q k
    exact cMo_row (n := n) (wd := wd) hX a5 a1 a6 a2 (fun i c x => absurd x (hn i c)) (fun _ => k _ _ (mup_at _ _ _ _) (qI_code _ hI))
end SIM
