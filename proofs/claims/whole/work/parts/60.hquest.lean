section HQU
variable {d : Nat} {P : qE → Prop} {X : qH} {mem : Nat → Nat → Int32} {sw : Bool} {o : Int64} {e : List Nat} {xs : List Int32} {a4 : Int32} {w5 w6 : Slot}
/-- the questions kept before stay as they were -/
theorem qQ1_keep {m m' : Nat → Nat → Int32} {nq q cnt : Nat} {col : Nat → Nat} (hq : q < nq) (e1 : ∀ j x, 36 ≤ j → j < 36 + 24 * nq → m' j x = m j x) (e2 : ∀ j x, 199 ≤ j → j < 211 → (j = 199 → x < nq) → (j = 200 → x < 2 * nq) → ((j = 201 ∨ j = 202 ∨ j = 204 ∨ j = 207) → x < 3 * nq) → (j = 203 → x < 9 * nq) → ((j = 205 ∨ j = 206) → x < 12 * nq) → (208 ≤ j → x < 18 * nq) → m' j x = m j x) (h : qQ1 m q cnt col) : qQ1 m' q cnt col := by
  obtain ⟨nb, h1, h2, h3, h4, h5, h6⟩ := h
  refine ⟨nb, h1, ?_, ?_, fun b hb => ?_, fun b hb => ?_, fun b hb => ?_⟩
  · rw [e1 _ _ (by omega) (by omega)]; exact h2
  · rw [e2 _ _ (by omega) (by omega) (by omega) (by omega) (by omega) (by omega) (by omega) (by omega)]; exact h3
  · obtain ⟨no, ns, nc, tb, g1, g2, g3, g4, g5, g6, g7, g8, g9, g10⟩ := h4 b hb
    refine ⟨no, ns, nc, tb, g1, g2, g3, ?_, ⟨?_, ?_⟩, ⟨?_, ?_⟩, ⟨?_, ?_⟩, fun k hk => ⟨(g8 k hk).1, ?_, ?_⟩, fun k hk => ?_, fun k hk => ⟨?_, ?_, ?_⟩⟩
    · rw [e1 _ _ (by omega) (by omega), e2 _ _ (by omega) (by omega) (by omega) (by omega) (by omega) (by omega) (by omega) (by omega)]; exact g4
    · rw [e1 _ _ (by omega) (by omega)]; exact g5.1
    · rw [e2 _ _ (by omega) (by omega) (by omega) (by omega) (by omega) (by omega) (by omega) (by omega)]; exact g5.2
    · rw [e1 _ _ (by omega) (by omega)]; exact g6.1
    · rw [e2 _ _ (by omega) (by omega) (by omega) (by omega) (by omega) (by omega) (by omega) (by omega)]; exact g6.2
    · rw [e1 _ _ (by omega) (by omega)]; exact g7.1
    · rw [e2 _ _ (by omega) (by omega) (by omega) (by omega) (by omega) (by omega) (by omega) (by omega)]; exact g7.2
    · rw [e1 _ _ (by omega) (by omega)]; exact (g8 k hk).2.1
    · rw [e2 _ _ (by omega) (by omega) (by omega) (by omega) (by omega) (by omega) (by omega) (by omega)]; exact (g8 k hk).2.2
    · rw [e2 _ _ (by omega) (by omega) (by omega) (by omega) (by omega) (by omega) (by omega) (by omega)]; exact qsl_mono (e1 _ _ (by omega) (by omega)) (e1 _ _ (by omega) (by omega)) (fun _ _ => rfl) (g9 k hk)
    · rw [e2 _ _ (by omega) (by omega) (by omega) (by omega) (by omega) (by omega) (by omega) (by omega)]; exact qsl_mono (e1 _ _ (by omega) (by omega)) (e1 _ _ (by omega) (by omega)) (fun _ _ => rfl) (g10 k hk).1
    · rw [e2 _ _ (by omega) (by omega) (by omega) (by omega) (by omega) (by omega) (by omega) (by omega)]; exact qsl_mono (e1 _ _ (by omega) (by omega)) (e1 _ _ (by omega) (by omega)) (fun _ _ => rfl) (g10 k hk).2.1
    · rw [e1 _ _ (by omega) (by omega), e2 _ _ (by omega) (by omega) (by omega) (by omega) (by omega) (by omega) (by omega) (by omega)]; exact (g10 k hk).2.2
  · rw [e1 _ _ (by omega) (by omega), e1 _ _ (by omega) (by omega)]; exact h5 b hb
  · rw [e1 _ _ (by omega) (by omega), e2 _ _ (by omega) (by omega) (by omega) (by omega) (by omega) (by omega) (by omega) (by omega)]; exact h6 b hb
theorem hLa_question (hX : X.length = 13) (hS : X[0]? = some (80, xs.map Value.int)) (hw5 : qfr w5) (hw6 : qfr w6) (spl : SPL (d + 26) X) (he : e.length < 10000) (hI : qI mem sw) (nx : lNx (d + 30) P X a4 (e.length + 1)) : QW (d + 30) mLa_law 458 (lLa_law_458 a4 w5 w6) [] (hpo X mem sw o e) P := by
  obtain ⟨cnt, col, row, hT, hT0, hR⟩ := hI
  have hT' := hT
  obtain ⟨h4, hc1, hc2, h1⟩ := hT'
  have c3 : ∀ i, i < 4 → col i ≤ 3 := fun i hi => (h1 i hi).2.2.1
  obtain ⟨⟨L, hL, hL1, hL2, hL3⟩, hp, hA, nq, hq1, hq2, hq3, hq4, hq5⟩ := hR
  refine gLa_question (d := d + 28) (I := qI)
    (A := fun w m s => s = sw ∧ nq < 4 ∧ w = qi nq ∧ ∃ N K S V E G l p, qLx (mem 29) L N K S V E G ∧ prd (qi cnt) K V S col 3 0 none = (some l, p) ∧ (∀ j q, ¬ (j = 13 ∧ 4 ≤ q ∧ q < 6) → ¬ (j = 28 ∧ q = 1) → ¬ (31 ≤ j ∧ j < 35) → ¬ (36 + 24 * nq ≤ j ∧ j < 36 + 24 * nq + 24) → m j q = mem j q) ∧ m 13 5 = -1 ∧ m 13 4 = qi (nq + 1) ∧ m 28 1 = 0 ∧ m (36 + 24 * nq) 0 = qi l.length ∧ 1 ≤ l.length ∧ l.length ≤ 3 ∧ (∀ k x, l[k]? = some x → blq m (36 + 24 * nq + 3 + 7 * k) x.1 col ∧ (k + 1 < l.length → m (36 + 24 * nq + 2) k = x.2)))
    (B1 := fun m s => s = sw ∧ ∃ N K S V E G p, qLx (mem 29) L N K S V E G ∧ prd (qi cnt) K V S col 3 0 none = (none, p) ∧ p ≤ 200 ∧ (∀ j q, ¬ (j = 13 ∧ 4 ≤ q ∧ q < 6) → ¬ (31 ≤ j ∧ j < 35) → ¬ (36 + 24 * nq ≤ j ∧ j < 36 + 24 * nq + 24) → m j q = mem j q) ∧ m 13 5 = qi p ∧ m 13 4 = qi nq)
    (B2 := fun m s => s = sw ∧ nq = 4 ∧ ∃ N K S V E G l p, qLx (mem 29) L N K S V E G ∧ prd (qi cnt) K V S col 3 0 none = (some l, p) ∧ (∀ j q, ¬ (j = 13 ∧ 4 ≤ q ∧ q < 6) → ¬ (31 ≤ j ∧ j < 35) → ¬ (36 + 24 * nq ≤ j ∧ j < 36 + 24 * nq + 24) → m j q = mem j q) ∧ m 13 5 = -1 ∧ m 13 4 = qi nq)
    hX hS hw5 hw6 ?_ ?_ ?_ ?_ (fun m s o' e' w5 w6 a b c n => nx m s o' e' w5 w6 a b c n)
  · intro Q k t1 t2
    exact cBp_question (d := d + 22) (cnt := cnt) (nq := nq) (L := L) (col := col) hX spl h4 c3 hL1 hL (fun k hk => (hL3 k hk).2) hc1 (fun t ht => (h1 t ht).1) hq2 hq1 he
      (fun hlt m' N K S V E G l p u1 u2 u3 u4 u5 u6 u7 u8 u9 u10 => k _ _ _ ⟨rfl, hlt, rfl, N, K, S, V, E, G, l, p, u1, u2, u3, u4, u5, u6, u7, u8, u9, u10⟩)
      (fun hn4 m' N K S V E G l p u1 u2 u3 u4 u5 => t2 _ _ ⟨rfl, hn4, N, K, S, V, E, G, l, p, u1, u2, u3, u4, u5⟩)
      (fun m' N K S V E G p u1 u2 u3 u4 u5 u6 => t1 _ _ ⟨rfl, N, K, S, V, E, G, p, u1, u2, u3, u4, u5, u6⟩)
  · rintro w m s o' ⟨rfl, hlt, rfl, N, K, S, V, E, G, l, p, u1, u2, u3, u4, u5, u6, u7, u8, u9, u10⟩ Q k
    refine cMo_question (d := d + 22) (cnt := cnt) (nq := nq) (L := L) (col := col) hX u1 h4 c3 (by rw [u3 _ _ (by omega) (by omega) (by omega) (by omega)]; exact hL2) (fun x hx => by rw [u3 _ _ (by omega) (by omega) (by omega) (by omega)]; exact (hL3 x hx).1.symm) (by rw [u3 _ _ (by omega) (by omega) (by omega) (by omega)]; exact hc2) (fun t ht => by rw [u3 _ _ (by omega) (by omega) (by omega) (by omega)]; exact (h1 t ht).2.1) (fun q => by rw [u3 _ _ (by omega) (by omega) (by omega) (by omega), u3 _ _ (by omega) (by omega) (by omega) (by omega)]; exact hq5 q) (by rw [u3 _ _ (by omega) (by omega) (by omega) (by omega)]; exact hq3) hq1 ?_ (fun m' l' p' v1 v2 => by omega) (fun m' p' v1 => by rw [u2] at v1; simp at v1) (fun p' v1 => by rw [u2] at v1; simp at v1)
    intro m' l' p' v1 _ v3 v4 v5 v6 v7 v8 v9 v10 v11
    obtain rfl : l = l' := by rw [u2] at v1; simp at v1; exact v1.1
    have fin : ∀ j q, ¬ (j = 13 ∧ 4 ≤ q ∧ q < 6) → ¬ (j = 28 ∧ q = 1) → ¬ (31 ≤ j ∧ j < 35) → ¬ (36 + 24 * nq ≤ j ∧ j < 36 + 24 * nq + 24) → ¬ (j = 193 ∧ (q = 0 ∨ q = 6 ∨ 8 ≤ q ∧ q < 14)) → ¬ (199 ≤ j ∧ j < 211) → m' j q = mem j q := fun j q z1 z2 z3 z4 z5 z6 => by rw [v10 j q z5 z6, u3 j q z1 z2 z3 z4]
    refine k m' v3 (qI_oth hT hT0 (fin _ _ (by omega) (by omega) (by omega) (by omega) (by omega) (by omega)) (fin _ _ (by omega) (by omega) (by omega) (by omega) (by omega) (by omega)) (fun j q hj => fin _ _ (by omega) (by omega) (by omega) (by omega) (by omega) (by omega)) ⟨⟨0, by omega, ?_, ?_, fun x hx => absurd hx (by omega)⟩, ?_, qAn_mono (fun j q a b => fin _ _ (by omega) (by omega) (by omega) (by omega) (by omega) (by omega)) (fun q a b => fin _ _ (by omega) (by omega) (by omega) (by omega) (by omega) (by omega)) (fun j q a b => fin _ _ (by omega) (by omega) (by omega) (by omega) (by omega) (by omega)) hA, nq + 1, by omega, ?_, v5, fun q hq => ?_, v9⟩)
    · rw [v10 _ _ (by omega) (by omega), u6]; rfl
    · rw [v6]; rfl
    · rw [v10 _ _ (by omega) (by omega), u4, v4]
    · rw [v10 _ _ (by omega) (by omega)]; exact u5
    · rcases Nat.lt_or_eq_of_le (Nat.le_of_lt_succ hq) with h' | h'
      · refine qQ1_keep h' (fun j x a b => fin _ _ (by omega) (by omega) (by omega) (by omega) (by omega) (by omega)) (fun j x a1 a2 a3 a4 a5 a6 a7 a8 => by rw [v11 j x a1 a2 a3 a4 a5 a6 a7 a8, u3 _ _ (by omega) (by omega) (by omega) (by omega)]) (hq4 q h')
      · subst h'
        have hblk : ∀ (k : Nat) (x : qBk × Int32), l[k]? = some x → blq m' (39 + 24 * q + 7 * k) x.1 col := fun k x hk => by
          have := (u10 k x hk).1
          have hl := (List.getElem?_eq_some_iff.mp hk).1
          rw [show 39 + 24 * q + 7 * k = 36 + 24 * q + 3 + 7 * k by omega]
          exact blq_mono this (fun j x' a b => v10 _ _ (by omega) (by omega))
        refine ⟨l.length, ⟨u8, u9⟩, by rw [v10 _ _ (by omega) (by omega)]; exact u7, v7, fun b hb => ?_, fun b hb => ?_, fun b hb => ?_⟩
        · have hg : l[b]? = some l[b] := List.getElem?_eq_getElem hb
          exact mk_qB1 h4 c3 (prd_ok (by omega) _ _ _ _ _ u2 b _ hg).1 (hblk b _ hg) (v8 b _ hg).1
        · have hg : l[b]? = some l[b] := List.getElem?_eq_getElem hb
          have hg0 : l[0]? = some (l[0]'(by omega)) := List.getElem?_eq_getElem (by omega)
          have e1 := (hblk b _ hg).2.1
          have e2 := (hblk 0 _ hg0).2.1
          rw [show 39 + 24 * q + 7 * 0 = 39 + 24 * q by omega] at e2
          rw [e1, e2, prd_w (by omega) u2 b _ _ hg hg0]
        · have hg : l[b]? = some (l[b]'(by omega)) := List.getElem?_eq_getElem (by omega)
          have e1 := (u10 b _ hg).2 hb
          rw [v10 _ _ (by omega) (by omega), show 38 + 24 * q = 36 + 24 * q + 2 by omega, e1]
          exact (v8 b _ hg).2 hb
  · rintro m s e' ⟨rfl, N, K, S, V, E, G, p, u1, u2, u3, u4, u5, u6⟩ Q k
    refine cMo_question (d := d + 22) (cnt := cnt) (nq := nq) (L := L) (col := col) hX u1 h4 c3 (by rw [u4 _ _ (by omega) (by omega) (by omega)]; exact hL2) (fun x hx => by rw [u4 _ _ (by omega) (by omega) (by omega)]; exact (hL3 x hx).1.symm) (by rw [u4 _ _ (by omega) (by omega) (by omega)]; exact hc2) (fun t ht => by rw [u4 _ _ (by omega) (by omega) (by omega)]; exact (h1 t ht).2.1) (fun q => by rw [u4 _ _ (by omega) (by omega) (by omega), u4 _ _ (by omega) (by omega) (by omega)]; exact hq5 q) (by rw [u4 _ _ (by omega) (by omega) (by omega)]; exact hq3) hq1 (fun m' l' p' v1 => by rw [u2] at v1; simp at v1) (fun m' l' p' v1 => by rw [u2] at v1; simp at v1) ?_ (fun p' v1 => by rw [u2] at v1; simp at v1; omega)
    intro m' p' v1 v3 v4 v9 v10 v11
    obtain rfl : p = p' := by rw [u2] at v1; simp at v1; exact v1
    have fin : ∀ j q, ¬ (j = 13 ∧ 4 ≤ q ∧ q < 6) → ¬ (31 ≤ j ∧ j < 35) → ¬ (36 + 24 * nq ≤ j ∧ j < 36 + 24 * nq + 24) → ¬ (j = 193 ∧ (q = 0 ∨ 8 ≤ q ∧ q < 13)) → ¬ (199 ≤ j ∧ j < 211) → m' j q = mem j q := fun j q z1 z3 z4 z5 z6 => by rw [v10 j q z5 z6, u4 j q z1 z3 z4]
    refine k _ m' v3 (qI_oth hT hT0 (fin _ _ (by omega) (by omega) (by omega) (by omega) (by omega)) (fin _ _ (by omega) (by omega) (by omega) (by omega) (by omega)) (fun j q hj => fin _ _ (by omega) (by omega) (by omega) (by omega) (by omega)) ⟨qTx_mono (fin _ _ (by omega) (by omega) (by omega) (by omega) (by omega)) (fin _ _ (by omega) (by omega) (by omega) (by omega) (by omega)) (fun k => fin _ _ (by omega) (by omega) (by omega) (by omega) (by omega)) (fun k => fin _ _ (by omega) (by omega) (by omega) (by omega) (by omega)) ⟨L, hL, hL1, hL2, hL3⟩, ?_, qAn_mono (fun j q a b => fin _ _ (by omega) (by omega) (by omega) (by omega) (by omega)) (fun q a b => fin _ _ (by omega) (by omega) (by omega) (by omega) (by omega)) (fun j q a b => fin _ _ (by omega) (by omega) (by omega) (by omega) (by omega)) hA, nq, hq1, ?_, ?_, fun q hq => ?_, v9⟩)
    · rw [v10 _ _ (by omega) (by omega), u5, v4]
    · rw [v10 _ _ (by omega) (by omega)]; exact u6
    · rw [fin _ _ (by omega) (by omega) (by omega) (by omega) (by omega)]; exact hq3
    · exact qQ1_keep hq (fun j x a b => fin _ _ (by omega) (by omega) (by omega) (by omega) (by omega)) (fun j x a1 a2 a3 a4 a5 a6 a7 a8 => by rw [v11 j x a1 a2 (by omega) (by omega) (by omega) (by omega) (by omega) (by omega), u4 _ _ (by omega) (by omega) (by omega)]) (hq4 q hq)
  · rintro m s e' ⟨rfl, hn4, N, K, S, V, E, G, l, p, u1, u2, u4, u5, u6⟩ Q k
    refine cMo_question (d := d + 22) (cnt := cnt) (nq := nq) (L := L) (col := col) hX u1 h4 c3 (by rw [u4 _ _ (by omega) (by omega) (by omega)]; exact hL2) (fun x hx => by rw [u4 _ _ (by omega) (by omega) (by omega)]; exact (hL3 x hx).1.symm) (by rw [u4 _ _ (by omega) (by omega) (by omega)]; exact hc2) (fun t ht => by rw [u4 _ _ (by omega) (by omega) (by omega)]; exact (h1 t ht).2.1) (fun q => by rw [u4 _ _ (by omega) (by omega) (by omega), u4 _ _ (by omega) (by omega) (by omega)]; exact hq5 q) (by rw [u4 _ _ (by omega) (by omega) (by omega)]; exact hq3) hq1 (fun m' l' p' v1 v2 => by omega) ?_ (fun m' p' v1 => by rw [u2] at v1; simp at v1) (fun p' v1 => by rw [u2] at v1; simp at v1)
    intro m' l' p' v1 _ v3 v4 v9 v10 v11
    have fin : ∀ j q, ¬ (j = 13 ∧ 4 ≤ q ∧ q < 6) → ¬ (31 ≤ j ∧ j < 35) → ¬ (36 + 24 * nq ≤ j ∧ j < 36 + 24 * nq + 24) → ¬ (j = 193 ∧ (q = 0 ∨ 8 ≤ q ∧ q < 13)) → ¬ (199 ≤ j ∧ j < 211) → m' j q = mem j q := fun j q z1 z3 z4 z5 z6 => by rw [v10 j q z5 z6, u4 j q z1 z3 z4]
    refine k _ m' v3 (qI_oth hT hT0 (fin _ _ (by omega) (by omega) (by omega) (by omega) (by omega)) (fin _ _ (by omega) (by omega) (by omega) (by omega) (by omega)) (fun j q hj => fin _ _ (by omega) (by omega) (by omega) (by omega) (by omega)) ⟨qTx_mono (fin _ _ (by omega) (by omega) (by omega) (by omega) (by omega)) (fin _ _ (by omega) (by omega) (by omega) (by omega) (by omega)) (fun k => fin _ _ (by omega) (by omega) (by omega) (by omega) (by omega)) (fun k => fin _ _ (by omega) (by omega) (by omega) (by omega) (by omega)) ⟨L, hL, hL1, hL2, hL3⟩, ?_, qAn_mono (fun j q a b => fin _ _ (by omega) (by omega) (by omega) (by omega) (by omega)) (fun q a b => fin _ _ (by omega) (by omega) (by omega) (by omega) (by omega)) (fun j q a b => fin _ _ (by omega) (by omega) (by omega) (by omega) (by omega)) hA, nq, hq1, ?_, ?_, fun q hq => ?_, v9⟩)
    · rw [v10 _ _ (by omega) (by omega), u5, v4]
    · rw [v10 _ _ (by omega) (by omega)]; exact u6
    · rw [fin _ _ (by omega) (by omega) (by omega) (by omega) (by omega)]; exact hq3
    · exact qQ1_keep hq (fun j x a b => fin _ _ (by omega) (by omega) (by omega) (by omega) (by omega)) (fun j x a1 a2 a3 a4 a5 a6 a7 a8 => by rw [v11 j x a1 a2 (by omega) (by omega) (by omega) (by omega) (by omega) (by omega), u4 _ _ (by omega) (by omega) (by omega)]) (hq4 q hq)
end HQU
