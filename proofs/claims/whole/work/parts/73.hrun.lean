section HRU
variable {d : Nat} {P : qE → Prop} {X : qH} {mem : Nat → Nat → Int32} {sw : Bool} {o : Int64} {e : List Nat} {xs : List Int32} {a4 : Int32} {w5 w6 : Slot}
theorem qAn_mono2 {mem' : Nat → Nat → Int32} (e1 : ∀ j q, swp sw 161 ≤ j → j < swp sw 161 + 3 → mem' j q = mem j q) (e2 : ∀ q, 33 ≤ q → q < 35 → mem' 193 q = mem 193 q) (e3 : ∀ j q, 192 ≤ j → (j = 192 ∨ (215 ≤ j ∧ j < 217)) → mem' j q = mem j q) (h : qAn mem sw) : qAn mem' sw := by
  obtain ⟨n, wd, h1, h2, h3, h4, h5, h6, h7, h8⟩ := h
  refine ⟨n, wd, h1, h2, ?_, ?_, ?_, ?_, fun i c hi hc => ?_, fun i hi => ?_, fun i hi => ?_⟩
  · rw [e1 _ _ (by omega) (by omega)]; exact h3
  · rw [e1 _ _ (by omega) (by omega)]; exact h4
  · rw [e2 _ (by omega) (by omega)]; exact h5
  · rw [e2 _ (by omega) (by omega)]; exact h6
  · rw [e1 _ _ (by omega) (by omega), e3 _ _ (by omega) (by omega)]; exact h7 i c hi hc
  · rw [e1 _ _ (by omega) (by omega), e3 _ _ (by omega) (by omega)]; exact h8.1 i hi
  · rw [e3 _ _ (by omega) (by omega)]; exact h8.2 i hi
theorem hLa_run (hX : X.length = 13) (hS : X[0]? = some (80, xs.map Value.int)) (hw5 : qfr w5) (hw6 : qfr w6) (i1 : inx (a4 + 1) xs.length) (he : e.length < 10000) (hI : qI mem sw) (nx : lNx (d + 30) P X a4 (e.length + 1)) : QW (d + 30) mLa_law 528 (lLa_law_528 a4 w5 w6) [] (hpo X mem sw o e) P := by
  have hI' := hI
  obtain ⟨cnt, col, row, hT, hT0, hTx, hpl, hA, nq, hq1, hq2, hq3, hq4, hq5⟩ := hI'
  generalize ha : xs.getD (Int32.toNatClampNeg (a4 + 1)) 0 = a
  have hT2 : swp sw 161 + 3 ≤ swp sw 164 ∨ swp sw 164 + 3 ≤ swp sw 161 := by cases sw <;> simp [swp]
  have hT3 : (swp sw 164 = 161 ∨ swp sw 164 = 164) ∧ (swp sw 161 = 161 ∨ swp sw 161 = 164) := by cases sw <;> simp [swp]
  have hsw : swp (!sw) 161 = swp sw 164 := by cases sw <;> rfl
  -- what stays where only plan, bags and the reference's lists were written
  have keep : ∀ m' : Nat → Nat → Int32, (∀ j x, ¬ (157 ≤ j ∧ j < 161) → ¬ (swp sw 164 ≤ j ∧ j < swp sw 164 + 3) → ¬ (167 ≤ j ∧ j < 170) → ¬ (j = 193 ∧ (x = 0 ∨ x = 26 ∨ x = 29)) → ¬ (211 ≤ j ∧ j < 215) → ¬ (217 ≤ j ∧ j < 219) → m' j x = mem j x) → qI m' sw := by
    intro m' hf
    have z : ∀ j x, ¬ (157 ≤ j ∧ j < 170) → ¬ (j = 193 ∧ (x = 0 ∨ x = 26 ∨ x = 29)) → ¬ (211 ≤ j ∧ j < 215) → ¬ (217 ≤ j ∧ j < 219) → m' j x = mem j x := fun j x a1 a2 a3 a4' => hf j x (by omega) (by omega) (by omega) a2 a3 a4'
    refine qI_oth hT hT0 (z _ _ (by omega) (by omega) (by omega) (by omega)) (z _ _ (by omega) (by omega) (by omega) (by omega)) (fun j x hj => z _ _ (by omega) (by omega) (by omega) (by omega)) ⟨qTx_mono (z _ _ (by omega) (by omega) (by omega) (by omega)) (z _ _ (by omega) (by omega) (by omega) (by omega)) (fun k => z _ _ (by omega) (by omega) (by omega) (by omega)) (fun k => z _ _ (by omega) (by omega) (by omega) (by omega)) hTx, ?_, qAn_mono2 (fun j x h1 h2 => hf j x (by omega) (by omega) (by omega) (by omega) (by omega) (by omega)) (fun x h1 h2 => z _ _ (by omega) (by omega) (by omega) (by omega)) (fun j x h1 h2 => z _ _ (by omega) (by omega) (by omega) (by omega)) hA, qQs_mono (z _ _ (by omega) (by omega) (by omega) (by omega)) (z _ _ (by omega) (by omega) (by omega) (by omega)) (fun j x h1 h2 => z _ _ (by omega) (by omega) (by omega) (by omega)) (fun j x h1 h2 => z _ _ (by omega) (by omega) (by omega) (by omega)) (Nat.le_refl _) (fun _ _ => rfl) ⟨nq, hq1, hq2, hq3, hq4, hq5⟩⟩
    rw [z _ _ (by omega) (by omega) (by omega) (by omega), z _ _ (by omega) (by omega) (by omega) (by omega)]; exact hpl
  by_cases hv : ∃ q, q < nq ∧ a = qi q
  · obtain ⟨q, hq, haq⟩ := hv
    obtain ⟨nb, w, ns, nc, tb, hnb, hn1, hn2, hw3, h202, hbm, hsg⟩ := qQ1_blk (by omega) hT (hq4 q hq)
    have hb : ∀ b, b < nb → bko mem (36 + 24 * q + 3 + 7 * b) w (ns b) (nc b) (tb b) row := fun b h => (hbm b h).1
    have hm : ∀ b, b < nb → mko mem mem (36 + 24 * q + 3 + 7 * b) (3 * q + b) w (ns b) (nc b) (tb b) row := fun b h => (hbm b h).2
    have hkQ : kQu (36 + 24 * q) := kQu_at (by omega)
    refine gLa_run (d := d + 28) (I := qI)
      (A := fun v m s => s = (!sw) ∧ v = m (swp sw 164) 1 ∧ (∀ j x, ¬ (157 ≤ j ∧ j < 161) → ¬ (swp sw 164 ≤ j ∧ j < swp sw 164 + 3) → ¬ (167 ≤ j ∧ j < 170) → m j x = mem j x) ∧ bgR m (swp sw 164) w (ans (blc mem (36 + 24 * q) w ns nc tb row) (mem (36 + 24 * q + 2)) (nb - 1)) ∧ (∀ b, b < nb → fts (bcn mem (36 + 24 * q + 3 + 7 * b) w (ns b) (nc b) (tb b) row) ∧ fts (ans (blc mem (36 + 24 * q) w ns nc tb row) (mem (36 + 24 * q + 2)) b)))
      (B1 := fun _ _ => False)
      (B2 := fun m s => s = sw ∧ (∀ j x, ¬ (157 ≤ j ∧ j < 161) → ¬ (swp sw 164 ≤ j ∧ j < swp sw 164 + 3) → ¬ (167 ≤ j ∧ j < 170) → m j x = mem j x) ∧ (∃ b, b < nb ∧ (¬ fts (bcn mem (36 + 24 * q + 3 + 7 * b) w (ns b) (nc b) (tb b) row) ∨ ¬ fts (ans (blc mem (36 + 24 * q) w ns nc tb row) (mem (36 + 24 * q + 2)) b))))
      hX hS hw5 hw6 i1 ?_ ?_ ?_ ?_ (fun m s o' e' w5 w6 a b c n => nx m s o' e' w5 w6 a b c n)
    · intro Q' k t1 t2
      rw [ha, haq]
      refine bBp_run_0 (d := d + 27) hX (bBp_questionAt_0 hX (fun z => absurd z (qi_p (by omega))) (fun _ _ => qi_inx (by omega) (by omega)) (fun _ _ => ?_) (fun _ z => absurd (by rw [hq2]; exact (qi_lt (by omega) (by omega)).mpr hq) z))
      rw [qi_N (by omega)]
      refine qcl_i (bBp_run_6 (d := d + 27) hX hkQ ?_)
      exact cBp_answerInto (d := d + 18) (nb := nb) (w := w) (ns := ns) (nc := nc) (tb := tb) (R := row) hX hkQ (by omega) hnb hn1 hb (fun m' u1 u2 u3 => qcl_i (bBp_run_9 hX (fun _ => bBp_run_22 hX (k _ _ _ ⟨rfl, rfl, u1, u2, u3⟩)) he (fun z => absurd z (by decide)))) (fun m' u1 u2 => qcl_i (bBp_run_9 hX (fun z => absurd rfl z) he (fun _ => t2 _ _ ⟨rfl, u1, u2⟩)))
    · rintro v m s o' ⟨rfl, rfl, u1, u2, u3⟩ Q' k
      rw [ha, haq]
      obtain ⟨n, ρc, κc, ⟨c1, c2, c3, c4, c5⟩, hcc⟩ := u2
      refine cMo_run (d := d + 25) (m0 := mem) (q := q) (Q := 36 + 24 * q) (nb := nb) (w := w) (nq := nq) (ns := ns) (nc := nc) (tb := tb) (R := row) hX hq hq1 (by rw [u1 _ _ (by omega) (by omega) (by omega)]; exact hq3) hnb (by rw [u1 _ _ (by omega) (by omega) (by omega)]; exact hn2) hb (fun b h => mko_mono (hm b h) (fun j x hj => u1 _ _ (by omega) (by omega) (by omega))) (fun b h => by rw [u1 200 _ (by omega) (by omega) (by omega)]; exact hsg b h) ?_ ?_
      · intro m2 h ρ κ g1 g2 g3 g4 g5 g6
        refine cMo_settle (d := d + 27) (nc := n) (ρc := ρc) (κc := κc) hX (by omega) g3 g4 g5 c5 (fun i hi => (c4 i hi).2.2) hcc (fun m3 f1 f2 f3 f4 => qcl_v (bMo_run_104 hX ?_))
        have all3 : ∀ j x, ¬ (157 ≤ j ∧ j < 161) → ¬ (swp sw 164 ≤ j ∧ j < swp sw 164 + 3) → ¬ (167 ≤ j ∧ j < 170) → ¬ (j = 193 ∧ (x = 0 ∨ x = 26 ∨ x = 29 ∨ x = 33 ∨ x = 34)) → ¬ (211 ≤ j ∧ j < 219) → m3 j x = mem j x := fun j x z1 z2 z3 z4 z5 => by rw [f1 j x (by omega) (by omega), g1 j x (by omega) (by omega) (by omega), u1 j x z1 z2 z3]
        have bag3 : ∀ j x, swp sw 164 ≤ j → j < swp sw 164 + 3 → m3 j x = m j x := fun j x z1 z2 => by rw [f1 j x (by omega) (by omega), g1 j x (by omega) (by omega) (by omega)]
        have hv : m3 193 33 = m (swp sw 164) 1 := by rw [f2, c2]
        rw [hv]
        have z : ∀ j x, ¬ (157 ≤ j ∧ j < 170) → ¬ (j = 193 ∧ (x = 0 ∨ x = 26 ∨ x = 29 ∨ x = 33 ∨ x = 34)) → ¬ (211 ≤ j ∧ j < 219) → m3 j x = mem j x := fun j x a1 a2 a3 => all3 j x (by omega) (by omega) (by omega) a2 a3
        refine k m3 (by rw [f1 _ _ (by omega) (by omega)]; exact g2) (qI_oth hT hT0 (z _ _ (by omega) (by omega) (by omega)) (z _ _ (by omega) (by omega) (by omega)) (fun j x hj => z _ _ (by omega) (by omega) (by omega)) ⟨qTx_mono (z _ _ (by omega) (by omega) (by omega)) (z _ _ (by omega) (by omega) (by omega)) (fun k => z _ _ (by omega) (by omega) (by omega)) (fun k => z _ _ (by omega) (by omega) (by omega)) hTx, ?_, ⟨n, w, c3, hw3.2, ?_, ?_, f2, ?_, fun i c hi hc => ?_, fun i hi => ?_, fun i hi => ?_⟩, qQs_mono (z _ _ (by omega) (by omega) (by omega)) (z _ _ (by omega) (by omega) (by omega)) (fun j x h1 h2 => z _ _ (by omega) (by omega) (by omega)) (fun j x h1 h2 => z _ _ (by omega) (by omega) (by omega)) (Nat.le_refl _) (fun _ _ => rfl) ⟨nq, hq1, hq2, hq3, hq4, hq5⟩⟩)
        · rw [z _ _ (by omega) (by omega) (by omega), z _ _ (by omega) (by omega) (by omega)]; exact hpl
        · rw [hsw, bag3 _ _ (by omega) (by omega)]; exact c2
        · rw [hsw, bag3 _ _ (by omega) (by omega)]; exact c1
        · rw [f3, g1 _ _ (by omega) (by omega) (by omega), u1 _ _ (by omega) (by omega) (by omega)]; exact h202
        · rw [hsw, bag3 _ _ (by omega) (by omega)]
          have e1 := (c4 i hi).1
          have e2 := (f4 i hi).1
          unfold rw3 at e1
          rcases (show c = 0 ∨ c = 1 ∨ c = 2 by omega) with rfl | rfl | rfl
          · have := congrArg (fun p : qRw => p.1) e1
            exact this.trans e2.1.symm
          · have := congrArg (fun p : qRw => p.2.1) e1
            dsimp only at this
            rw [if_pos hc] at this
            exact this.trans e2.2.1.symm
          · have := congrArg (fun p : qRw => p.2.2) e1
            dsimp only at this
            rw [if_pos hc] at this
            exact this.trans e2.2.2.symm
        · rw [hsw, bag3 _ _ (by omega) (by omega), (c4 i hi).2.1, (f4 i hi).2]
        · obtain ⟨n0, wd0, t1, t2, t3, t4, t5, t6, t7, t8⟩ := hA
          rw [z _ _ (by omega) (by omega) (by omega)]
          exact t8.2 i hi
      · intro m2 g1 g2 g3
        obtain ⟨b, hb', hbb⟩ := g3
        rcases hbb with h' | h'
        · exact absurd (u3 b hb').1 h'
        · exact absurd (u3 b hb').2 h'
    · rintro m s e' hf
      exact hf.elim
    · rintro m s e' ⟨rfl, u1, u2⟩ Q' k
      rw [ha, haq]
      refine cMo_run (d := d + 25) (m0 := mem) (q := q) (Q := 36 + 24 * q) (nb := nb) (w := w) (nq := nq) (ns := ns) (nc := nc) (tb := tb) (R := row) hX hq hq1 (by rw [u1 _ _ (by omega) (by omega) (by omega)]; exact hq3) hnb (by rw [u1 _ _ (by omega) (by omega) (by omega)]; exact hn2) hb (fun b h => mko_mono (hm b h) (fun j x hj => u1 _ _ (by omega) (by omega) (by omega))) (fun b h => by rw [u1 200 _ (by omega) (by omega) (by omega)]; exact hsg b h) ?_ ?_
      · intro m2 h ρ κ g1 g2 g3 g4 g5 g6
        obtain ⟨b, hb', hbb⟩ := u2
        rcases hbb with h' | h'
        · exact absurd (g6 b hb').1 h'
        · exact absurd (g6 b hb').2 h'
      · intro m2 g1 g2 g3
        exact k _ m2 g2 (keep m2 (fun j x z1 z2 z3 z4 z5 z6 => by rw [g1 j x z4 z5 z6, u1 j x z1 z2 z3]))
  · -- no such question
    have hno : a < 0 ∨ (¬ a < 0 ∧ ¬ a < qi nq) := by
      by_cases h0 : a < 0
      · exact Or.inl h0
      · refine Or.inr ⟨h0, fun z => ?_⟩
        obtain ⟨q, hq, e'⟩ := qi_of h0
        rw [e', qi_lt hq (by omega)] at z
        exact hv ⟨q, z, e'⟩
    refine gLa_run (d := d + 28) (I := qI) (A := fun _ _ _ => False) (B1 := fun m s => s = sw ∧ m = mem) (B2 := fun _ _ => False) hX hS hw5 hw6 i1 ?_ (fun _ _ _ _ hf => hf.elim) ?_ (fun _ _ _ hf => hf.elim) (fun m s o' e' w5 w6 a b c n => nx m s o' e' w5 w6 a b c n)
    · intro Q' k t1 t2
      rw [ha]
      have fin : QW (d + 27) mBp_questionAt 12 (lBp_questionAt_12 a) [] (hpo X mem sw o e) (qcl (d + 27) mBp_run 3 6 (lBp_run_6 a) [.ref 13] Q') := bBp_questionAt_12 hX he (qcl_x rfl (t1 _ _ ⟨rfl, rfl⟩))
      refine bBp_run_0 (d := d + 27) hX (bBp_questionAt_0 hX (fun _ => fin) (fun z1 z2 => ?_) (fun z1 z2 => ?_) (fun _ _ => fin))
      · rw [hq2] at z2
        exact absurd hno (by rintro (y | y); exact z1 y; exact y.2 z2)
      · rw [hq2] at z2
        exact absurd hno (by rintro (y | y); exact z1 y; exact y.2 z2)
    · rintro m s e' ⟨rfl, rfl⟩ Q' k
      rw [ha]
      have hgt : ¬ mup m 193 0 1 193 0 ≤ 0 := by rw [mup_at]; decide
      have fin : QW (d + 29) mMo_run 13 (lMo_run_13 a) [.ref 193] (hpo X m s o e') Q' := bMo_run_13 hX (bMo_run_18 hX (fun z => absurd z hgt) (fun _ => k _ _ (mup_at _ _ _ _) (qI_code _ hI)))
      refine bMo_run_0 hX (fun _ => fin) (fun z1 z2 => ?_) (fun _ _ => fin)
      rw [hq3] at z2
      exact absurd hno (by rintro (y | y); exact z1 y; exact y.2 z2)
end HRU
