theorem qi_div {a b : Nat} (ha : a < 2147483648) (hb : b < 2147483648) : qi a / qi b = qi (a / b) := (Int32.ofNat_div ha hb).symm
/-- a value as the reference holds it once it is resolved -/
def rok (ls : List qV) (col : Nat → Nat) (v : qV) (r : Int32) : Prop := (v.1 = 0 ∧ r = enc v) ∨ (¬ v.1 = 0 ∧ ∃ s t c, fsn ls v.1 s (qi t) ∧ t < 4 ∧ v.2 = qi c ∧ c < col t ∧ r = qi (3 * s + c))
theorem rok_bsl {ls : List qV} {col : Nat → Nat} {v : qV} {r : Int32} (h : rok ls col v r) : ∃ x, bsl ls col v x := by
  rcases h with ⟨h0, _⟩ | ⟨h0, s, t, c, h1, h2, h3, h4, _⟩
  · exact ⟨-1, Or.inl ⟨h0, rfl⟩⟩
  · exact ⟨qi s, Or.inr ⟨h0, s, t, c, rfl, h1, h2, h3, h4⟩⟩
section MRS
variable {d : Nat} {P : qE → Prop} {X : qH} {sw : Bool} {o : Int64} {e : List Nat} {mb : Nat} {mem : Nat → Nat → Int32}
theorem cMo_resolved {ls : List qV} {col : Nat → Nat} {v : qV} (hX : X.length = 13) (hmb : mb < 15) (hs : msr mem mb ls) (h4 : ls.length ≤ 4) (hls : ∀ (s : Nat) (w : qV), ls[s]? = some w → ∃ t, t < 4 ∧ w.1 = qi t) (hco : ∀ t, t < 4 → mem 194 t = qi (col t) ∧ col t ≤ 3) (hv : okv v)
    (k1 : ∀ r, rok ls col v r → (0 : Int32) ≤ r → P (.inl (some (.int r)), hpo X mem sw o e)) (k0 : bbd ls col v → P (.inl (some (.int (-1))), hpo X mem sw o e)) :
    QW d mMo_resolved 0 (qen 4 [.ref 193, .int (qi mb), .int (enc v)]) [] (hpo X mem sw o e) P := by
  have hmi : inx (qi mb) 15 := qi_inx hmb (by omega)
  have eN : Int32.toNatClampNeg (qi mb) = mb := qi_N (by omega)
  by_cases h0 : v.1 = 0
  · obtain ⟨b, hb, b1, b2⟩ := enc_num h0 hv
    have : ¬ (10000 : Int32) ≤ enc v := by rw [hb]; exact fun z => by have := (qi_le (a := 10000) (by omega) (by omega)).mp z; omega
    exact bMo_resolved_0 hX (fun z => absurd z this) (fun _ => k1 _ (Or.inl ⟨h0, rfl⟩) (enc_ge hv))
  · rcases hv with ⟨hx, _⟩ | ⟨c, b, hc, c1, c2, hb, hl⟩
    · exact absurd hx h0
    · have ev := enc_col hc c1 c2 hb hl
      have hge : (10000 : Int32) ≤ enc v := by rw [ev]; exact (qi_le (a := 10000) (by omega) (by omega)).mpr (by omega)
      have e1 : enc v / 1000 - 10 = v.1 - 97 := by
        rw [ev, hc, show (1000 : Int32) = qi 1000 from rfl, qi_div (by omega) (by omega), show (10 : Int32) = qi 10 from rfl, show (97 : Int32) = qi 97 from rfl, qi_sub (by omega), qi_sub c1]
        congr 1
        omega
      have e2 : enc v - enc v / 1000 * 1000 = qi b := by
        rw [ev, show (1000 : Int32) = qi 1000 from rfl, qi_div (by omega) (by omega), qi_mul, qi_sub (by omega)]
        congr 1
        omega
      have lp : ∀ r k : Nat, k + r = ls.length → (∀ (j : Nat) (w : qV), j < k → ls[j]? = some w → ¬ w.2 = v.1) → QW d mMo_resolved 11 (lMo_resolved_11 (qi mb) (enc v) (qi k)) [] (hpo X mem sw o e) P := by
        intro r
        induction r with
        | zero =>
          intro k hk hno
          have hle : mem 204 (Int32.toNatClampNeg (qi mb)) ≤ qi k := by rw [eN, hs.1, show k = ls.length by omega]; exact Int32.le_refl _
          refine bMo_resolved_11 hX hmi (fun _ => k0 ⟨h0, Or.inl fun s w hw => hno s w ?_ hw⟩) (fun z => absurd hle z) (fun z => absurd hle z) (fun z => absurd hle z) (fun z => absurd hle z) (fun z => absurd hle z) (fun z => absurd hle z)
          have := (List.getElem?_eq_some_iff.mp hw).1
          omega
        | succ r ih =>
          intro k hk hno
          have hle : ¬ mem 204 (Int32.toNatClampNeg (qi mb)) ≤ qi k := by rw [eN, hs.1, qi_le (by omega) (by omega)]; omega
          have e4 : (4 : Int32) * qi mb + qi k = qi (4 * mb + k) := by rw [q4, qi_add]
          have hin : inx (qi (4 * mb + k)) 60 := qi_inx (by omega) (by omega)
          have hkl : k < ls.length := by omega
          have hgk : ls[k]? = some ls[k] := List.getElem?_eq_getElem hkl
          have hsk := hs.2 k _ hgk
          obtain ⟨t, ht, htv⟩ := hls k _ hgk
          have e205 : mem 205 (Int32.toNatClampNeg (4 * qi mb + qi k)) = qi t := by rw [e4, qi_N (by omega), hsk.1, htv]
          have hfs : ls[k].2 = v.1 → fsn ls v.1 k (qi t) := fun y => ⟨by rw [hgk, ← htv, ← y], hno⟩
          have heq : (mem 206 (Int32.toNatClampNeg (4 * qi mb + qi k)) = enc v / 1000 - 10) ↔ ls[k].2 = v.1 := by rw [e4, qi_N (by omega), hsk.2, e1, s97]
          have e194 : mem 194 (Int32.toNatClampNeg (mem 205 (Int32.toNatClampNeg (4 * qi mb + qi k)))) = qi (col t) := by rw [e205, qi_N (by omega)]; exact (hco t ht).1
          refine bMo_resolved_11 hX hmi (fun z => absurd z hle) (fun _ => by rw [e4]; exact hin) (fun _ z => ?_) (fun _ _ => by rw [e4]; exact hin) (fun _ _ => by rw [e205]; exact qi_inx ht (by omega)) (fun _ z y => ?_) (fun _ z y => ?_)
          · rw [qi_1]
            refine ih (k + 1) (by omega) (fun j w hj hw => ?_)
            rcases Nat.lt_or_eq_of_le (Nat.le_of_lt_succ hj) with h' | h'
            · exact hno j w h' hw
            · subst h'
              rw [hgk] at hw
              cases hw
              exact fun y => z (heq.mpr y)
          · rw [e194, e2] at y
            exact k0 ⟨h0, Or.inr ⟨k, t, hfs (heq.mp z), ht, Or.inr (by rw [hb]; exact y)⟩⟩
          · have hc3 := (hco t ht).2
            rw [e194, e2, qi_le (by omega) (by omega)] at y
            rw [e2, q3, qi_add]
            exact k1 _ (Or.inr ⟨h0, k, t, b, hfs (heq.mp z), ht, hb, by omega, rfl⟩) ((qi_le (a := 0) (by omega) (by omega)).mpr (by omega))
      exact bMo_resolved_0 hX (fun _ => lp ls.length 0 (by omega) (fun j w hj => absurd hj (by omega))) (fun z => absurd hge z)
theorem uv_out {b : qBk} {k : Nat} {v : qV} (h3 : b.2.1.length ≤ 3) (h : b.2.1[k]? = some v) : uv b k = some v := by
  have := (List.getElem?_eq_some_iff.mp h).1
  rw [uv, if_pos (by omega)]; exact h
theorem uv_lo {b : qBk} {k : Nat} {c : qV × Int32 × qV} (h : b.2.2.2[k]? = some c) : uv b (3 + 2 * k) = some c.1 := by
  rw [uv, if_neg (by omega), show (3 + 2 * k - 3) / 2 = k by omega, show (3 + 2 * k - 3) % 2 = 0 by omega, h]; rfl
theorem uv_hi {b : qBk} {k : Nat} {c : qV × Int32 × qV} (h : b.2.2.2[k]? = some c) : uv b (4 + 2 * k) = some c.2.2 := by
  rw [uv, if_neg (by omega), show (4 + 2 * k - 3) / 2 = k by omega, show (4 + 2 * k - 3) % 2 = 1 by omega, h]; rfl
/-- the reference resolves a block's names -/
theorem cMo_resolve {col : Nat → Nat} {b : qBk} (hX : X.length = 13) (hmb : mb < 15) (hb : mbl mem mb b) (h3 : b.2.1.length ≤ 3) (h4 : b.2.2.1.length ≤ 4) (h6 : b.2.2.2.length ≤ 6) (hls : ∀ (s : Nat) (w : qV), b.2.2.1[s]? = some w → ∃ t, t < 4 ∧ w.1 = qi t) (hco : ∀ t, t < 4 → mem 194 t = qi (col t) ∧ col t ≤ 3)
    (k1 : abd col b → ∀ m', (∀ j q, ¬ (j = 203 ∧ 3 * mb ≤ q ∧ q < 3 * mb + 3) → ¬ (208 ≤ j ∧ j < 210 ∧ 6 * mb ≤ q ∧ q < 6 * mb + 6) → m' j q = mem j q) → (∀ k v, b.2.1[k]? = some v → rok b.2.2.1 col v (m' 203 (3 * mb + k))) → (∀ k c, b.2.2.2[k]? = some c → rok b.2.2.1 col c.1 (m' 208 (6 * mb + k)) ∧ rok b.2.2.1 col c.2.2 (m' 209 (6 * mb + k))) → P (.inl (some (.int 1)), hpo X m' sw o e))
    (k0 : ¬ abd col b → ∀ m', (∀ j q, ¬ (j = 203 ∧ 3 * mb ≤ q ∧ q < 3 * mb + 3) → ¬ (208 ≤ j ∧ j < 210 ∧ 6 * mb ≤ q ∧ q < 6 * mb + 6) → m' j q = mem j q) → P (.inl (some (.int 0)), hpo X m' sw o e)) :
    QW (d + 1) mMo_resolve 0 (qen 4 [.ref 193, .int (qi mb)]) [] (hpo X mem sw o e) P := by
  obtain ⟨b1, b2, b3, b4, b5, b6⟩ := hb
  have hmi : inx (qi mb) 15 := qi_inx hmb (by omega)
  have eN : Int32.toNatClampNeg (qi mb) = mb := qi_N (by omega)
  have c3 : ∀ t, t < 4 → col t ≤ 3 := fun t ht => (hco t ht).2
  -- good: none bad so far
  have cnd : ∀ r i (g : Int32) (m : Nat → Nat → Int32), i + r = b.2.2.2.length → b01 g → (g = 1 → (∀ k v, b.2.1[k]? = some v → rok b.2.2.1 col v (m 203 (3 * mb + k))) ∧ ∀ k c, k < i → b.2.2.2[k]? = some c → rok b.2.2.1 col c.1 (m 208 (6 * mb + k)) ∧ rok b.2.2.1 col c.2.2 (m 209 (6 * mb + k))) → (g = 0 → ¬ abd col b) → (∀ j q, ¬ (j = 203 ∧ 3 * mb ≤ q ∧ q < 3 * mb + 3) → ¬ (208 ≤ j ∧ j < 210 ∧ 6 * mb ≤ q ∧ q < 6 * mb + i) → m j q = mem j q) → QW (d + 1) mMo_resolve 67 (lMo_resolve_67 (qi mb) g (qi (6 * mb + i))) [] (hpo X m sw o e) P := by
    intro r
    induction r with
    | zero =>
      intro i g m hi hg g1 g0 hfr
      have e207 : (6 : Int32) * qi mb + m 207 (Int32.toNatClampNeg (qi mb)) = qi (6 * mb + b.2.2.2.length) := by rw [eN, hfr _ _ (by omega) (by omega), b5, q6, qi_add]
      have hle : (6 : Int32) * qi mb + m 207 (Int32.toNatClampNeg (qi mb)) ≤ qi (6 * mb + i) := by rw [e207, show i = b.2.2.2.length by omega]; exact Int32.le_refl _
      refine bMo_resolve_67 hX hmi (fun _ => by rcases hg with rfl | rfl <;> decide) (fun _ => ?_) (fun z => absurd hle z) (fun z => absurd hle z)
      rcases hg with hg | hg
      · subst hg
        exact k0 (g0 rfl) m (fun j q a c => hfr j q a (by omega))
      · subst hg
        obtain ⟨x1, x2⟩ := g1 rfl
        refine k1 (fun k v hu => ?_) m (fun j q a c => hfr j q a (by omega)) x1 (fun k c hk => x2 k c ?_ hk)
        · unfold uv at hu
          by_cases hk : k < 3
          · rw [if_pos hk] at hu
            exact rok_bsl (x1 k v hu)
          · rw [if_neg hk] at hu
            rcases hc : b.2.2.2[(k - 3) / 2]? with _ | c
            · rw [hc] at hu; simp at hu
            · rw [hc] at hu
              have hl := (List.getElem?_eq_some_iff.mp hc).1
              have := x2 _ c (by omega) hc
              simp at hu
              by_cases hp : (k - 3) % 2 = 0
              · rw [if_pos hp] at hu; rw [← hu]; exact rok_bsl this.1
              · rw [if_neg hp] at hu; rw [← hu]; exact rok_bsl this.2
        · have hl := (List.getElem?_eq_some_iff.mp hk).1
          omega
    | succ r ih =>
      intro i g m hi hg g1 g0 hfr
      have e207 : (6 : Int32) * qi mb + m 207 (Int32.toNatClampNeg (qi mb)) = qi (6 * mb + b.2.2.2.length) := by rw [eN, hfr _ _ (by omega) (by omega), b5, q6, qi_add]
      have hle : ¬ (6 : Int32) * qi mb + m 207 (Int32.toNatClampNeg (qi mb)) ≤ qi (6 * mb + i) := by rw [e207, qi_le (by omega) (by omega)]; omega
      have hin : inx (qi (6 * mb + i)) 90 := qi_inx (by omega) (by omega)
      have eN6 : Int32.toNatClampNeg (qi (6 * mb + i)) = 6 * mb + i := qi_N (by omega)
      have hil : i < b.2.2.2.length := by omega
      have hgi : b.2.2.2[i]? = some b.2.2.2[i] := List.getElem?_eq_getElem hil
      have hci := b6 i _ hgi
      have hsm : ∀ m' : Nat → Nat → Int32, (∀ j q, 194 ≤ j → j < 208 → ¬ j = 203 → m' j q = mem j q) → msr m' mb b.2.2.1 ∧ ∀ t, t < 4 → m' 194 t = qi (col t) ∧ col t ≤ 3 := fun m' hm' => ⟨msr_mono b4 (hm' _ _ (by omega) (by omega) (by omega)) (fun q _ _ => ⟨hm' _ _ (by omega) (by omega) (by omega), hm' _ _ (by omega) (by omega) (by omega)⟩), fun t ht => by rw [hm' _ _ (by omega) (by omega) (by omega)]; exact hco t ht⟩
      -- both values written: on
      have fin : ∀ (u w : Int32) (bd1 bd2 : Prop), (rok b.2.2.1 col b.2.2.2[i].1 u ∧ (0 : Int32) ≤ u ∧ ¬ bd1 ∨ u = -1 ∧ bbd b.2.2.1 col b.2.2.2[i].1 ∧ bd1) → (rok b.2.2.1 col b.2.2.2[i].2.2 w ∧ (0 : Int32) ≤ w ∧ ¬ bd2 ∨ w = -1 ∧ bbd b.2.2.1 col b.2.2.2[i].2.2 ∧ bd2) → QW (d + 1) mMo_resolve 115 (lMo_resolve_115 (qi mb) g (qi (6 * mb + i))) [.int w, .int (qi (6 * mb + i)), .ref 209] (hpo X (mup m 208 (6 * mb + i) u) sw o e) P := by
        intro u w bd1 bd2 hu hw
        have hfr2 : ∀ j q, ¬ (j = 208 ∧ q = 6 * mb + i) → ¬ (j = 209 ∧ q = 6 * mb + i) → mup (mup m 208 (6 * mb + i) u) 209 (6 * mb + i) w j q = m j q := fun j q a c => by (repeat (rw [mup_q]; first | rw [if_pos (by omega)] | rw [if_neg (by omega)]))
        have x8 : mup (mup m 208 (6 * mb + i) u) 209 (6 * mb + i) w 208 (6 * mb + i) = u := by (repeat (rw [mup_q]; first | rw [if_pos (by omega)] | rw [if_neg (by omega)]))
        have x9 : mup (mup m 208 (6 * mb + i) u) 209 (6 * mb + i) w 209 (6 * mb + i) = w := by (repeat (rw [mup_q]; first | rw [if_pos (by omega)] | rw [if_neg (by omega)]))
        have bad : (g = 0 ∨ bd1 ∨ bd2) → QW (d + 1) mMo_resolve 142 (lMo_resolve_142 (qi mb) g (qi (6 * mb + i))) [] (hpo X (mup (mup m 208 (6 * mb + i) u) 209 (6 * mb + i) w) sw o e) P := by
          intro hbd
          refine bMo_resolve_142 hX (bMo_resolve_143 hX ?_)
          rw [qi_1]
          refine ih (i + 1) 0 _ (by omega) (Or.inl rfl) (fun z => absurd z (by decide)) (fun _ hab => ?_) (fun j q a c => by rw [hfr2 j q (by omega) (by omega)]; exact hfr j q a (by omega))
          rcases hbd with z | z | z
          · exact g0 z hab
          · rcases hu with hu | hu
            · exact hu.2.2 z
            · exact bbd_no c3 hu.2.1 (hab _ _ (uv_lo hgi))
          · rcases hw with hw | hw
            · exact hw.2.2 z
            · exact bbd_no c3 hw.2.1 (hab _ _ (uv_hi hgi))
        refine bMo_resolve_115 hX hin (fun z => ?_) (fun _ => hin) (fun z y => ?_) (fun _ _ => hin) (fun z y y' => ?_) (fun z y y' => ?_)
        · rw [eN6]; exact bad (Or.inl z)
        · rw [eN6, x8] at y
          rw [eN6]
          rcases hu with hu | hu
          · exact absurd y (Int32.not_lt.mpr hu.2.1)
          · exact bad (Or.inr (Or.inl hu.2.2))
        · rw [eN6, x9] at y'
          rw [eN6]
          rcases hw with hw | hw
          · exact absurd y' (Int32.not_lt.mpr hw.2.1)
          · exact bad (Or.inr (Or.inr hw.2.2))
        · rw [eN6, x8] at y
          rw [eN6, x9] at y'
          rw [eN6]
          rcases hu with hu | hu
          · rcases hw with hw | hw
            · refine bMo_resolve_143 hX ?_
              rw [qi_1]
              obtain ⟨y1, y2⟩ := g1 (hg.resolve_left z)
              refine ih (i + 1) 1 _ (by omega) (Or.inr rfl) (fun _ => ⟨fun k v hk => by rw [hfr2 _ _ (by omega) (by omega)]; exact y1 k v hk, fun k c hk hc => ?_⟩) (fun z => absurd z (by decide)) (fun j q a c => by rw [hfr2 j q (by omega) (by omega)]; exact hfr j q a (by omega))
              rcases Nat.lt_or_eq_of_le (Nat.le_of_lt_succ hk) with h' | h'
              · rw [hfr2 _ _ (by omega) (by omega), hfr2 _ _ (by omega) (by omega)]
                exact y2 k c h' hc
              · subst h'
                rw [hgi] at hc
                cases hc
                rw [x8, x9]
                exact ⟨hu.1, hw.1⟩
            · rw [hw.1] at y'
              exact absurd (by decide) y'
          · rw [hu.1] at y
            exact absurd (by decide) y
      have e208 : m 208 (6 * mb + i) = enc b.2.2.2[i].1 := by rw [hfr _ _ (by omega) (by omega)]; exact hci.1
      have e209 : m 209 (6 * mb + i) = enc b.2.2.2[i].2.2 := by rw [hfr _ _ (by omega) (by omega)]; exact hci.2.1
      have hs1 := hsm m (fun j q a c hne => hfr _ _ (by omega) (by omega))
      refine bMo_resolve_67 hX hmi (fun z => absurd z hle) (fun z => absurd z hle) (fun _ => hin) (fun _ => ?_)
      rw [eN6, e208]
      have second : ∀ (u : Int32) (bd1 : Prop), (rok b.2.2.1 col b.2.2.2[i].1 u ∧ (0 : Int32) ≤ u ∧ ¬ bd1 ∨ u = -1 ∧ bbd b.2.2.1 col b.2.2.2[i].1 ∧ bd1) → QW (d + 1) mMo_resolve 98 (lMo_resolve_98 (qi mb) g (qi (6 * mb + i))) [.int u, .int (qi (6 * mb + i)), .ref 208] (hpo X m sw o e) P := by
        intro u bd1 hu
        refine bMo_resolve_98 hX hin hin ?_
        rw [eN6, show mup m 208 (6 * mb + i) u 209 (6 * mb + i) = enc b.2.2.2[i].2.2 by (repeat (rw [mup_q]; first | rw [if_pos (by omega)] | rw [if_neg (by omega)])); exact e209]
        have hs2 := hsm (mup m 208 (6 * mb + i) u) (fun j q a c hne => by (repeat (rw [mup_q]; first | rw [if_pos (by omega)] | rw [if_neg (by omega)])); exact hfr _ _ (by omega) (by omega))
        exact cMo_resolved hX hmb hs2.1 h4 hls hs2.2 hci.2.2.2.2 (fun r h1 h2 => qcl_i (fin u r bd1 False hu (Or.inl ⟨h1, h2, id⟩))) (fun h1 => qcl_i (fin u (-1) bd1 True hu (Or.inr ⟨rfl, h1, trivial⟩)))
      exact cMo_resolved hX hmb hs1.1 h4 hls hs1.2 hci.2.2.2.1 (fun r h1 h2 => qcl_i (second r False (Or.inl ⟨h1, h2, id⟩))) (fun h1 => qcl_i (second (-1) True (Or.inr ⟨rfl, h1, trivial⟩)))
  have out : ∀ r i (g : Int32) (m : Nat → Nat → Int32), i + r = b.2.1.length → b01 g → (g = 1 → ∀ k v, k < i → b.2.1[k]? = some v → rok b.2.2.1 col v (m 203 (3 * mb + k))) → (g = 0 → ¬ abd col b) → (∀ j q, ¬ (j = 203 ∧ 3 * mb ≤ q ∧ q < 3 * mb + i) → m j q = mem j q) → QW (d + 1) mMo_resolve 6 (lMo_resolve_6 (qi mb) g (qi (3 * mb + i))) [] (hpo X m sw o e) P := by
    intro r
    induction r with
    | zero =>
      intro i g m hi hg g1 g0 hfr
      have e202 : (3 : Int32) * qi mb + m 202 (Int32.toNatClampNeg (qi mb)) = qi (3 * mb + b.2.1.length) := by rw [eN, hfr _ _ (by omega), b2, q3, qi_add]
      have hle : (3 : Int32) * qi mb + m 202 (Int32.toNatClampNeg (qi mb)) ≤ qi (3 * mb + i) := by rw [e202, show i = b.2.1.length by omega]; exact Int32.le_refl _
      refine bMo_resolve_6 hX hmi (fun _ => ?_) (fun z => absurd hle z) (fun z => absurd hle z)
      rw [q6]
      refine cnd b.2.2.2.length 0 g m (by omega) hg (fun z => ⟨fun k v hk => g1 z k v ?_ hk, fun k c hk => absurd hk (by omega)⟩) g0 (fun j q a c => hfr j q (by omega))
      have hl := (List.getElem?_eq_some_iff.mp hk).1
      omega
    | succ r ih =>
      intro i g m hi hg g1 g0 hfr
      have e202 : (3 : Int32) * qi mb + m 202 (Int32.toNatClampNeg (qi mb)) = qi (3 * mb + b.2.1.length) := by rw [eN, hfr _ _ (by omega), b2, q3, qi_add]
      have hle : ¬ (3 : Int32) * qi mb + m 202 (Int32.toNatClampNeg (qi mb)) ≤ qi (3 * mb + i) := by rw [e202, qi_le (by omega) (by omega)]; omega
      have hin : inx (qi (3 * mb + i)) 45 := qi_inx (by omega) (by omega)
      have eN3 : Int32.toNatClampNeg (qi (3 * mb + i)) = 3 * mb + i := qi_N (by omega)
      have hil : i < b.2.1.length := by omega
      have hgi : b.2.1[i]? = some b.2.1[i] := List.getElem?_eq_getElem hil
      have hci := b3 i _ hgi
      have e203 : m 203 (3 * mb + i) = enc b.2.1[i] := by rw [hfr _ _ (by omega)]; exact hci.1
      refine bMo_resolve_6 hX hmi (fun z => absurd z hle) (fun _ => hin) (fun _ => ?_)
      rw [eN3, e203]
      refine cMo_resolved hX hmb (msr_mono b4 (hfr _ _ (by omega)) (fun q _ _ => ⟨hfr _ _ (by omega), hfr _ _ (by omega)⟩)) h4 hls (fun t ht => by rw [hfr _ _ (by omega)]; exact hco t ht) hci.2 (fun u h1 h2 => qcl_i ?_) (fun h1 => qcl_i ?_)
      · have x3 : mup m 203 (3 * mb + i) u 203 (3 * mb + i) = u := mup_at _ _ _ _
        refine bMo_resolve_36 hX hin (fun z => ?_) (fun _ => hin) (fun z y => ?_) (fun z y => ?_)
        · rw [eN3]
          refine bMo_resolve_54 hX (bMo_resolve_55 hX ?_)
          rw [qi_1]
          exact ih (i + 1) 0 _ (by omega) (Or.inl rfl) (fun z => absurd z (by decide)) (fun _ => g0 z) (fun j q a => by (repeat (rw [mup_q]; first | rw [if_pos (by omega)] | rw [if_neg (by omega)])); exact hfr j q (by omega))
        · rw [eN3, x3] at y
          exact absurd y (Int32.not_lt.mpr h2)
        · rw [eN3]
          refine bMo_resolve_55 hX ?_
          rw [qi_1]
          refine ih (i + 1) 1 _ (by omega) (Or.inr rfl) (fun _ k v hk hv => ?_) (fun z => absurd z (by decide)) (fun j q a => by (repeat (rw [mup_q]; first | rw [if_pos (by omega)] | rw [if_neg (by omega)])); exact hfr j q (by omega))
          rcases Nat.lt_or_eq_of_le (Nat.le_of_lt_succ hk) with h' | h'
          · rw [show mup m 203 (3 * mb + i) u 203 (3 * mb + k) = m 203 (3 * mb + k) by (repeat (rw [mup_q]; first | rw [if_pos (by omega)] | rw [if_neg (by omega)]))]
            exact g1 (hg.resolve_left z) k v h' hv
          · subst h'
            rw [hgi] at hv
            cases hv
            rw [x3]; exact h1
      · have nab : ¬ abd col b := fun hab => bbd_no c3 h1 (hab _ _ (uv_out h3 hgi))
        have x3 : mup m 203 (3 * mb + i) (-1) 203 (3 * mb + i) = -1 := mup_at _ _ _ _
        have bad : QW (d + 1) mMo_resolve 54 (lMo_resolve_54 (qi mb) g (qi (3 * mb + i))) [] (hpo X (mup m 203 (3 * mb + i) (-1)) sw o e) P := by
          refine bMo_resolve_54 hX (bMo_resolve_55 hX ?_)
          rw [qi_1]
          exact ih (i + 1) 0 _ (by omega) (Or.inl rfl) (fun z => absurd z (by decide)) (fun _ => nab) (fun j q a => by (repeat (rw [mup_q]; first | rw [if_pos (by omega)] | rw [if_neg (by omega)])); exact hfr j q (by omega))
        refine bMo_resolve_36 hX hin (fun z => by rw [eN3]; exact bad) (fun _ => hin) (fun z y => by rw [eN3]; exact bad) (fun z y => ?_)
        rw [eN3, x3] at y
        exact absurd (by decide) y
  refine bMo_resolve_0 hX ?_
  rw [q3]
  exact out b.2.1.length 0 1 mem (by omega) (Or.inr rfl) (fun _ k v hk => absurd hk (by omega)) (fun z => absurd z (by decide)) (fun j q _ => rfl)
end MRS
