theorem q_mxs : Cond.static Lib.Math.max.name ∈ lw_tbl := q_tw 679 (by decide +kernel)
theorem q_mxc : Cond.code Lib.Math.max.name Lib.Math.max.code 2 (some .int) ∈ lw_tbl := q_tw 680 (by decide +kernel)
theorem q_mns : Cond.static Lib.Math.min.name ∈ lw_tbl := q_tw 682 (by decide +kernel)
theorem q_mnc : Cond.code Lib.Math.min.name Lib.Math.min.code 2 (some .int) ∈ lw_tbl := q_tw 683 (by decide +kernel)
theorem q_mi : Cond.initialized "java/lang/Math" ∈ lw_tbl := q_tw 24 (by decide +kernel)
theorem q_si : Cond.initialized "java/lang/System" ∈ lw_tbl := q_tw 19 (by decide +kernel)
theorem q_acs : Cond.static arraycopyName ∈ lw_tbl := q_tw 569 (by decide +kernel)
theorem q_acn : Cond.native arraycopyName ∈ lw_tbl := q_tw 570 (by decide +kernel)
theorem q_mxl : Cond.methodLink "BagPlanner$Plan" 76 Lib.Math.max.name ∈ lw_tbl := q_tw 842 (by decide +kernel)
theorem q_mnl : Cond.methodLink "BagPlanner$Bag" 46 Lib.Math.min.name ∈ lw_tbl := q_tw 890 (by decide +kernel)
theorem q_acT : Cond.methodLink "BagPlanner$Table" 34 arraycopyName ∈ lw_tbl := q_tw 568 (by decide +kernel)
theorem q_acB : Cond.methodLink "BagPlanner$Bag" 33 arraycopyName ∈ lw_tbl := q_tw 872 (by decide +kernel)
theorem q_clM : Cond.constantLong "BagPlannerModel" 120 255 ∈ lw_tbl := q_tw 1230 (by decide +kernel)
theorem q_clL : Cond.constantLong "BagPlannerLaw" 79 4294967295 ∈ lw_tbl := q_tw 1444 (by decide +kernel)
/-- n values of l0 from s on, laid into l1 from t on -/
def cpl (l0 l1 : List Value) (s t : Nat) : Nat → List Value
  | 0 => l1
  | n + 1 => (cpl l0 l1 s t n).set (t + n) (l0.getD (s + n) .null)
theorem cpl_len (l0 l1 : List Value) (s t : Nat) : ∀ n, (cpl l0 l1 s t n).length = l1.length
  | 0 => rfl
  | n + 1 => by
    show ((cpl l0 l1 s t n).set _ _).length = _
    rw [List.length_set, cpl_len l0 l1 s t n]
theorem q_getD (ad : Nat → Nat) (l0 : List Value) (k : Nat) : (l0.map (qv ad)).toArray.getD k .null = qv ad (l0.getD k .null) := by
  rw [Array.getD_eq_getD_getElem?, List.getD_eq_getElem?_getD]
  simp only [List.getElem?_toArray, List.getElem?_map]
  cases l0[k]? <;> rfl
theorem q_run_slots (ad : Nat → Nat) (cs cd : Cell) (l0 l1 : List Value) (s t : Nat) (hs : cs.slots = (l0.map (qv ad)).toArray) (hd : cd.slots = (l1.map (qv ad)).toArray) : ∀ n, (cd.storeRun t (cs.stretch s n)).slots = ((cpl l0 l1 s t n).map (qv ad)).toArray
  | 0 => hd
  | n + 1 => by
    have ih := q_run_slots ad cs cd l0 l1 s t hs hd n
    have e1 : cs.stretch s (n + 1) = cs.stretch s n ++ [cs.slots.getD (s + n) .null] := by
      unfold Cell.stretch
      rw [List.range_succ, List.map_append]
      rfl
    have e2 : (cs.stretch s n).length = n := by simp [Cell.stretch]
    have e3 : cd.storeRun t (cs.stretch s (n + 1)) = (cd.storeRun t (cs.stretch s n)).setSlot (t + n) (cs.slots.getD (s + n) .null) := by
      unfold Cell.storeRun Cell.storePairs
      rw [e1, List.zipIdx_append, List.foldl_append, e2]
      simp
    rw [e3]
    show (cd.storeRun t (cs.stretch s n)).slots.setIfInBounds (t + n) _ = (((cpl l0 l1 s t n).set (t + n) (l0.getD (s + n) .null)).map (qv ad)).toArray
    rw [ih, hs, q_getD]
    simp [List.map_set]
section QCP
variable {d : Nat} {M : qM} {pc idx : Nat} {ls : List Slot} {st : List Value} {h : qH} {P : qE → Prop}
theorem QW.ldc2 {v : Int64} (hd : decode M.2.1 pc = .ok (.ldc2_w idx, 3)) (hc : Cond.constantLong M.1.cls idx v ∈ lw_tbl) (kk : QW d M (pc + 3) ls (.long v :: st) h P) : QW d M pc ls st h P := by
  intro l s0 a0 A n0 p e R s m args below meth c H locs I S
  exact lv_ldc2 I.1 I.2.1 I.own (I.word hc (Or.inl rfl)) hd (kk I S)
theorem q_catS {ad : Nat → Nat} {st : List Value} (hw : (st.map fun v => v.category).sum ≤ 20) : ((qvs ad st).map fun v => v.category).sum ≤ 20 := by
  have e1 : (qvs ad st).map (fun v => v.category) = st.map fun v => v.category := by
    simp [qvs, List.map_map, Function.comp_def, qv_cat]
  rw [e1]
  exact hw
theorem q_room {l : Launch} {s0 : State} {a0 : Array Value} {A : qA} {M : qM} {d n0 : Nat} {p : Program} {R : Room} {s : State} {m : MethodId} {meth : Method} {c : Code} {h : qH} {H : Heap} {locs : List Loc} (I : qIn l s0 a0 A M d n0 p R s m meth c) (S : qSt A s0 n0 h H locs) : 1 ≤ R.frames ∧ 800 ≤ R.locals ∧ h.length - n0 ≤ R.cells ∧ 256 * (h.length - n0) ≤ R.slots := by
  obtain ⟨-, -, -, -, -, -, -, -, -, -, -, -, -, i1, i2, i3, i4, -⟩ := I
  obtain ⟨-, -, -, j1, j2⟩ := S
  refine ⟨by omega, by omega, by omega, by omega⟩
theorem QW.mmax {x y : Int32} (hd : decode M.2.1 pc = .ok (.invokestatic idx, 3)) (hl : Cond.methodLink M.1.cls idx Lib.Math.max.name ∈ lw_tbl) (hls : ls.length = M.2.2.1) (hw : (st.map fun v => v.category).sum ≤ 20) (kk : QW d M (pc + 3) ls (.int (if x < y then y else x) :: st) h P) : QW d M pc ls (.int y :: .int x :: st) h P := by
  intro l s0 a0 A n0 p e R s m args below meth c H locs I S
  obtain ⟨r1, r2, r3, r4⟩ := q_room I S
  have hw2 := q_catS (ad := A.1) hw
  exact va_mmax (rest := qvs A.1 st) I.1 I.2.1 (by rw [I.2.2.1, ← hls]; simp [qls]) I.own (I.word hl (Or.inl rfl)) (I.word q_mxs (Or.inl rfl)) (I.word q_mi (Or.inl rfl)) (I.word q_mxc (Or.inl rfl)) r1 (by omega) r3 r4 hd (kk I S)
theorem QW.mmin {x y : Int32} (hd : decode M.2.1 pc = .ok (.invokestatic idx, 3)) (hl : Cond.methodLink M.1.cls idx Lib.Math.min.name ∈ lw_tbl) (hls : ls.length = M.2.2.1) (hw : (st.map fun v => v.category).sum ≤ 20) (kk : QW d M (pc + 3) ls (.int (if y < x then y else x) :: st) h P) : QW d M pc ls (.int y :: .int x :: st) h P := by
  intro l s0 a0 A n0 p e R s m args below meth c H locs I S
  obtain ⟨r1, r2, r3, r4⟩ := q_room I S
  have hw2 := q_catS (ad := A.1) hw
  exact va_mmin (rest := qvs A.1 st) I.1 I.2.1 (by rw [I.2.2.1, ← hls]; simp [qls]) I.own (I.word hl (Or.inl rfl)) (I.word q_mns (Or.inl rfl)) (I.word q_mi (Or.inl rfl)) (I.word q_mnc (Or.inl rfl)) r1 (by omega) r3 r4 hd (kk I S)
theorem qSt_puts {A : qA} {s0 : State} {n0 : Nat} {h : qH} {H H' : Heap} {locs locs' : List Loc} {i : Nat} {c c' : qC} (hA : qad A) (S : qSt A s0 n0 h H locs) (hi : h[i]? = some c) (hK : A.2.2 ≤ i) (hc : qat A (A.1 i) c' H') (hz : H'.size = H.size) (ho : ∀ q : Nat, q ≠ A.1 i → H'[q]? = H[q]?) (hl : ∀ q ∈ locs', q.base = A.1 i) : qSt A s0 n0 (h.set i c') H' (locs ++ locs') := by
  have S1 := qSt_put (sl := 0) hA S hi hK hc hz ho
  refine ⟨S1.1, S1.2.1, fun q hq => ?_, S1.2.2.2⟩
  rcases List.mem_append.mp hq with h1 | h1
  · exact S.2.2.1 q h1
  · rw [hl q h1]
    exact qad_le hA hK (Nat.le_of_lt (Nat.lt_of_lt_of_le (List.getElem?_eq_some_iff.mp hi).1 (q_cap S.2.2.2.2)))
theorem QW.acopy {a b : Nat} {l0 l1 : List Value} {sp dp n : Int32} (hd : decode M.2.1 pc = .ok (.invokestatic idx, 3)) (hl : Cond.methodLink M.1.cls idx arraycopyName ∈ lw_tbl) (ha : h[a]? = some (64, l0)) (hb : h[b]? = some (64, l1)) (hint : ∀ v ∈ l0, ∃ x, v = .int x) (h1 : ¬ sp < 0) (h2 : ¬ dp < 0) (h3 : ¬ n < 0) (h4 : sp.toNatClampNeg + n.toNatClampNeg ≤ l0.length) (h5 : dp.toNatClampNeg + n.toNatClampNeg ≤ l1.length) (hls : ls.length = M.2.2.1) (hw : (st.map fun v => v.category).sum ≤ 20)
    (kk : QW d M (pc + 3) ls st (h.set b (64, cpl l0 l1 sp.toNatClampNeg dp.toNatClampNeg n.toNatClampNeg)) P) : QW d M pc ls (.int n :: .int dp :: .ref b :: .int sp :: .ref a :: st) h P := by
  intro l s0 a0 A n0 p e R s m args below meth c H locs I S T hT X
  have nn : ∀ z : Int32, ¬ z < 0 → z.toInt = (z.toNatClampNeg : Int) := by
    intro z hz
    have hz0 : (0 : Int) ≤ z.toInt := by
      have := Int32.not_lt.mp hz
      simpa using Int32.le_iff_toInt_le.mp this
    show z.toInt = ((z.toInt.toNat : Nat) : Int)
    omega
  obtain ⟨r1, r2, r3, r4⟩ := q_room I S
  have hw2 := q_catS (ad := A.1) hw
  obtain ⟨⟨cs, c1, c2, c3, c4, c5, -, c7⟩, -⟩ := S.1.2.2 a _ ha
  obtain ⟨⟨cd, d1, d2, d3, d4, d5, -, d7⟩, dK⟩ := S.1.2.2 b _ hb
  have c7 := c7 (Nat.le_refl 64)
  have d7 := d7 (Nat.le_refl 64)
  obtain ⟨kA, comp, k1, k2⟩ := I.arr (t := 64) (ty := .int) rfl
  have hval : ∀ i, i < n.toNatClampNeg → ∃ x, cs.slots.getD (sp.toNatClampNeg + i) .null = .int x := by
    intro i hi
    rw [c7, q_getD]
    have hlt : sp.toNatClampNeg + i < l0.length := by omega
    obtain ⟨x, hx⟩ := hint (l0[sp.toNatClampNeg + i]) (List.getElem_mem hlt)
    refine ⟨x, ?_⟩
    rw [List.getD_eq_getElem?_getD, List.getElem?_eq_getElem hlt, Option.getD_some, hx]
    rfl
  obtain ⟨vm', X', step⟩ := X.arraycopy I.1 I.own (I.word hl (Or.inl rfl)) (I.word q_acn (Or.inl rfl)) (I.word q_acs (Or.inl rfl)) (I.word q_si (Or.inl rfl)) (src := A.1 a) (dst := A.1 b) (cs := cs) (cd := cd) (srcPos := sp) (destPos := dp) (n := n) (by rw [hT]; exact c1) (by rw [hT]; exact d1)
    (q_nst c4) (q_nst d4) c3 d3 (by rw [c2]; exact k1) (by rw [d2]; exact k1) k2 k2 rfl h1 h2 h3
    (by rw [nn sp h1, nn n h3, c7]; simp; omega) (by rw [nn dp h2, nn n h3, d7]; simp; omega)
    (fun vm₁ _ i hi => by
      obtain ⟨x, hx⟩ := hval i hi
      rw [hx]
      exact ⟨rfl, trivial⟩)
    (g := F0 m pc (qls A.1 ls) (.int n :: .int dp :: .ref (A.1 b) :: .int sp :: .ref (A.1 a) :: qvs A.1 st)) rfl (by show (qls A.1 ls).size = _; rw [I.2.2.1, ← hls]; simp [qls]) (rest := qvs A.1 st) rfl (by rw [I.2.1]; exact hd) r1 (by
      have : nativeFrameWords "java/lang/System" "arraycopy" 5 ≤ 100 := by decide
      show 2 * 0 + _ + _ ≤ _
      omega)
  have hl2 : A.1 b < H.size := (Array.getElem?_eq_some_iff.mp d1).1
  have hf := Cell.storePairs_facts cd dp.toNatClampNeg (cs.stretch sp.toNatClampNeg n.toNatClampNeg).zipIdx
  have S' := qSt_puts (H' := H.setIfInBounds (A.1 b) (copied cs cd sp dp n)) (locs' := (cs.stretch sp.toNatClampNeg n.toNatClampNeg).zipIdx.map fun q => ⟨A.1 b, dp.toNatClampNeg + q.2⟩) (c' := (64, cpl l0 l1 sp.toNatClampNeg dp.toNatClampNeg n.toNatClampNeg)) I.ad S hb (dK rfl)
    ⟨copied cs cd sp dp n, by simp [Array.getElem?_setIfInBounds, hl2], hf.1.trans d2, by rw [show (copied cs cd sp dp n).vm = cd.vm from hf.2.1]; exact d3, by rw [show (copied cs cd sp dp n).vm = cd.vm from hf.2.1]; exact d4, fun z => (show (copied cs cd sp dp n).vm = cd.vm from hf.2.1).trans (d5 z), fun z => absurd z (Nat.lt_irrefl 64), fun _ => q_run_slots A.1 cs cd l0 l1 _ _ c7 d7 _⟩
    (by simp) (fun q hq => by simp [Array.getElem?_setIfInBounds, Ne.symm hq]) (fun q hq => by
      obtain ⟨z, -, hz⟩ := List.mem_map.mp hq
      rw [← hz])
  have K := kk (e := e) (args := args) (below := below) I S'
  rw [List.length_set] at K
  have hheap : ((T.setVm vm').setCell (A.1 b) (copied cs cd sp dp n)).heap = H.setIfInBounds (A.1 b) (copied cs cd sp dp n) := by rw [← hT]; rfl
  obtain ⟨t, a1, b1⟩ := K _ hheap X'
  exact ⟨t, step t a1, b1⟩
end QCP
/-- a copy in the memory -/
def mcp (mem : Nat → Nat → Int32) (a b s t : Nat) : Nat → Nat → Nat → Int32
  | 0 => mem
  | n + 1 => mup (mcp mem a b s t n) b (t + n) (mem a (s + n))
theorem mcp_q (mem : Nat → Nat → Int32) (a b s t j q : Nat) : ∀ n, mcp mem a b s t n j q = if j = b ∧ t ≤ q ∧ q < t + n then mem a (s + (q - t)) else mem j q
  | 0 => by
    rw [if_neg (by omega)]
    rfl
  | n + 1 => by
    show mup (mcp mem a b s t n) b (t + n) (mem a (s + n)) j q = _
    rw [mup_q, mcp_q mem a b s t j q n]
    by_cases h1 : j = b ∧ q = t + n
    · obtain ⟨rfl, rfl⟩ := h1
      rw [if_pos ⟨rfl, rfl⟩, if_pos (by omega), Nat.add_sub_cancel_left]
    · rw [if_neg h1]
      by_cases h2 : j = b ∧ t ≤ q ∧ q < t + n
      · rw [if_pos h2, if_pos (by omega)]
      · rw [if_neg h2, if_neg (by omega)]
section MCP
variable {d : Nat} {M : qM} {pc idx : Nat} {ls : List Slot} {st : List Value} {P : qE → Prop} {X : qH} {mem : Nat → Nat → Int32} {sw : Bool} {o : Int64} {e : List Nat} {a b na nb : Nat}
theorem slv_rep (m : Nat → Int32) (sw : Bool) : ∀ (n b : Nat) (v : Value), v ∈ slv m sw b (List.replicate n none) → ∃ x, v = .int x
  | 0, b, v, h => by cases h
  | n + 1, b, v, h => by
    rcases List.mem_cons.mp h with h1 | h1
    · exact ⟨_, h1⟩
    · exact slv_rep m sw n (b + 1) v h1
theorem mcp_hpo (hX : X.length = 13) (ha : sh a = some (64, List.replicate na none)) (hb : sh b = some (64, List.replicate nb none)) (s t : Nat) : ∀ n, s + n ≤ na → t + n ≤ nb → (hpo X mem sw o e).set b (64, cpl (slv (mem a) sw 0 (List.replicate na none)) (slv (mem b) sw 0 (List.replicate nb none)) s t n) = hpo X (mcp mem a b s t n) sw o e ∧ cpl (slv (mem a) sw 0 (List.replicate na none)) (slv (mem b) sw 0 (List.replicate nb none)) s t n = slv (mcp mem a b s t n b) sw 0 (List.replicate nb none)
  | 0, _, _ => by
    refine ⟨?_, rfl⟩
    show (hpo X mem sw o e).set b _ = hpo X mem sw o e
    have h1 := sh_get (mem := mem) (sw := sw) (o := o) (e := e) hX hb
    obtain ⟨h2, h3⟩ := List.getElem?_eq_some_iff.mp h1
    show (hpo X mem sw o e).set b (64, slv (mem b) sw 0 (List.replicate nb none)) = _
    rw [← h3]
    exact List.set_getElem_self h2
  | n + 1, h1, h2 => by
    obtain ⟨e1, e2⟩ := mcp_hpo hX ha hb s t n (by omega) (by omega)
    have ev : (slv (mem a) sw 0 (List.replicate na none)).getD (s + n) .null = .int (mem a (s + n)) := by
      have := slv_i (mem := mem) (i := a) (sw := sw) (rep_get (n := na) (k := s + n) (by omega))
      rw [List.getD_eq_getElem?_getD, this]
      rfl
    have e3 := sh_set (mem := mcp mem a b s t n) (sw := sw) (o := o) (e := e) (k := t + n) hX hb (rep_get (by omega)) (mem a (s + n))
    have e4 : cpl (slv (mem a) sw 0 (List.replicate na none)) (slv (mem b) sw 0 (List.replicate nb none)) s t (n + 1) = (slv (mcp mem a b s t n b) sw 0 (List.replicate nb none)).set (t + n) (.int (mem a (s + n))) := by
      show (cpl _ _ s t n).set (t + n) _ = _
      rw [ev, e2]
    refine ⟨?_, ?_⟩
    · rw [e4]
      show _ = hpo X (mup (mcp mem a b s t n) b (t + n) (mem a (s + n))) sw o e
      rw [← e3, ← e1, List.set_set]
    · rw [e4]
      have e5 := slv_set (mcp mem a b s t n b) sw (mem a (s + n)) (List.replicate nb none) 0 (t + n) (rep_get (by omega))
      rw [e5]
      congr 1
      funext q
      show _ = mup (mcp mem a b s t n) b (t + n) (mem a (s + n)) b q
      simp [mup]
theorem MW.copy {sp dp n : Int32} (hX : X.length = 13) (hd : decode M.2.1 pc = .ok (.invokestatic idx, 3)) (hl : Cond.methodLink M.1.cls idx arraycopyName ∈ lw_tbl) (ha : sh a = some (64, List.replicate na none)) (hb : sh b = some (64, List.replicate nb none)) (h1 : ¬ sp < 0) (h2 : ¬ dp < 0) (h3 : ¬ n < 0) (h4 : sp.toNatClampNeg + n.toNatClampNeg ≤ na) (h5 : dp.toNatClampNeg + n.toNatClampNeg ≤ nb) (hls : ls.length = M.2.2.1) (hw : (st.map fun v => v.category).sum ≤ 20)
    (kk : QW d M (pc + 3) ls st (hpo X (mcp mem a b sp.toNatClampNeg dp.toNatClampNeg n.toNatClampNeg) sw o e) P) : QW d M pc ls (.int n :: .int dp :: .ref b :: .int sp :: .ref a :: st) (hpo X mem sw o e) P := by
  refine QW.acopy hd hl (sh_get hX ha) (sh_get hX hb) (fun v hv => slv_rep _ _ _ _ v hv) h1 h2 h3 (by rw [slv_len, List.length_replicate]; exact h4) (by rw [slv_len, List.length_replicate]; exact h5) hls hw ?_
  rw [(mcp_hpo hX ha hb _ _ _ h4 h5).1]
  exact kk
end MCP
