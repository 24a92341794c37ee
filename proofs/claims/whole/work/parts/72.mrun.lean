section MRU
variable {d : Nat} {P : qE → Prop} {X : qH} {sw : Bool} {o : Int64} {e : List Nat} {m0 mem : Nat → Nat → Int32} {q Q nb w nq : Nat} {ns nc : Nat → Nat} {tb : Nat → Nat → Nat} {R : Nat → Nat}
theorem cMo_run (hX : X.length = 13) (hq : q < nq) (hnq : nq ≤ 4) (h13 : mem 193 13 = qi nq) (hnb : 1 ≤ nb ∧ nb ≤ 3) (hn : mem 199 q = qi nb) (hb : ∀ b, b < nb → bko m0 (Q + 3 + 7 * b) w (ns b) (nc b) (tb b) R) (hm : ∀ b, b < nb → mko mem m0 (Q + 3 + 7 * b) (3 * q + b) w (ns b) (nc b) (tb b) R) (hsg : ∀ b, b + 1 < nb → qsg (m0 (Q + 2) b) (mem 200 (2 * q + b)))
    (k1 : ∀ m' h ρ κ, (∀ j x, ¬ (j = 193 ∧ (x = 0 ∨ x = 26 ∨ x = 29)) → ¬ (211 ≤ j ∧ j < 215) → ¬ (217 ≤ j ∧ j < 219) → m' j x = mem j x) → m' 193 0 = 0 → m' 193 29 = qi h → lsF m' 213 214 h ρ κ → isC h ρ κ (ans (blc m0 Q w ns nc tb R) (m0 (Q + 2)) (nb - 1)) → (∀ b, b < nb → fts (bcn m0 (Q + 3 + 7 * b) w (ns b) (nc b) (tb b) R) ∧ fts (ans (blc m0 Q w ns nc tb R) (m0 (Q + 2)) b)) → QW (d + 3) mMo_settle 0 (qen 5 [.ref 193, .int (qi q)]) [] (hpo X m' sw o e) (qcl (d + 3) mMo_run 101 104 (lMo_run_104 (qi q) (qi nb)) [] P))
    (k0 : ∀ m', (∀ j x, ¬ (j = 193 ∧ (x = 0 ∨ x = 26 ∨ x = 29)) → ¬ (211 ≤ j ∧ j < 215) → ¬ (217 ≤ j ∧ j < 219) → m' j x = mem j x) → m' 193 0 = 2 → (∃ b, b < nb ∧ (¬ fts (bcn m0 (Q + 3 + 7 * b) w (ns b) (nc b) (tb b) R) ∨ ¬ fts (ans (blc m0 Q w ns nc tb R) (m0 (Q + 2)) b))) → P (.inl (some (.int 0)), hpo X m' sw o e)) :
    QW (d + 4) mMo_run 0 (qen 3 [.ref 193, .int (qi q)]) [] (hpo X mem sw o e) P := by
  have hlt : qi q < mem 193 13 := by rw [h13]; exact (qi_lt (by omega) (by omega)).mpr hq
  refine bMo_run_0 hX (fun z => absurd z (qi_p (by omega))) (fun _ _ => ?_) (fun _ z => absurd hlt z)
  have hle : mup mem 193 0 0 193 0 ≤ 0 := by rw [mup_at]; decide
  refine bMo_run_18 hX (fun _ => ?_) (fun z => absurd hle z)
  have hi5 : inx (qi q) 5 := qi_inx (by omega) (by omega)
  have nQ : Int32.toNatClampNeg (qi q) = q := qi_N (by omega)
  have hbl : ∀ b, b < nb → ∀ r, blc m0 Q w ns nc tb R b r ≤ 4096 := fun b h r => Nat.le_trans onc_le (bcn_le (hb b h) r)
  have lp : ∀ f k m h (A : qRw → Nat), k + f = nb → (∀ j x, ¬ (j = 193 ∧ (x = 0 ∨ x = 26 ∨ x = 29)) → ¬ (211 ≤ j ∧ j < 215) → ¬ (217 ≤ j ∧ j < 219) → m j x = mem j x) → m 193 0 = 0 → m 193 29 = qi h → lsR m 213 214 h A → (k = 0 → A = fun _ => 0) → (¬ k = 0 → A = ans (blc m0 Q w ns nc tb R) (m0 (Q + 2)) (k - 1)) → (∀ b, b < k → fts (bcn m0 (Q + 3 + 7 * b) w (ns b) (nc b) (tb b) R) ∧ fts (ans (blc m0 Q w ns nc tb R) (m0 (Q + 2)) b)) → QW (d + 4) mMo_run 37 (lMo_run_37 (qi q) (qi k)) [] (hpo X m sw o e) P := by
    intro f
    induction f with
    | zero =>
      intro k m h A hk hfr hc0 h29 hls hA0 hA1 hft
      obtain rfl : k = nb := by omega
      have hle2 : m 199 (Int32.toNatClampNeg (qi q)) ≤ qi k := by rw [nQ, hfr _ _ (by omega) (by omega) (by omega), hn]; exact Int32.le_refl _
      obtain ⟨ρ, κ, hf, hc⟩ := hls
      rw [hA1 (by omega)] at hc
      exact bMo_run_37 (d := d + 3) hX hi5 (fun _ => k1 m h ρ κ hfr hc0 h29 hf hc hft) (fun z => absurd hle2 z)
    | succ f ih =>
      intro k m h A hk hfr hc0 h29 hls hA0 hA1 hft
      have hle2 : ¬ m 199 (Int32.toNatClampNeg (qi q)) ≤ qi k := by rw [nQ, hfr _ _ (by omega) (by omega) (by omega), hn, qi_le (by omega) (by omega)]; omega
      refine bMo_run_37 (d := d + 3) hX hi5 (fun z => absurd z hle2) (fun _ => ?_)
      rw [q3, qi_add]
      have bad : ∀ m2, (∀ j x, ¬ (j = 193 ∧ (x = 0 ∨ x = 26 ∨ x = 29)) → ¬ (211 ≤ j ∧ j < 215) → ¬ (217 ≤ j ∧ j < 219) → m2 j x = mem j x) → (¬ fts (bcn m0 (Q + 3 + 7 * k) w (ns k) (nc k) (tb k) R) ∨ ¬ fts (ans (blc m0 Q w ns nc tb R) (m0 (Q + 2)) k)) → QW (d + 4) mMo_run 86 (lMo_run_86 (qi q) (qi k)) [] (hpo X m2 sw o e) P := fun m2 h1 h2 => bMo_run_86 hX (k0 _ (fun j x z1 z2 z3 => by rw [mup_q, if_neg (by omega)]; exact h1 j x z1 z2 z3) (mup_at _ _ _ _) ⟨k, by omega, h2⟩)
      refine cMo_take (d := d + 1) hX (hb k (by omega)) (mko_mono (hm k (by omega)) (fun j x hj => hfr _ _ (by omega) (by omega) (by omega))) (fun m2 n' a1 a2 a3 => ?_) (fun m2 a1 a2 => ?_)
      · have fr2 : ∀ j x, ¬ (j = 193 ∧ (x = 0 ∨ x = 26 ∨ x = 29)) → ¬ (211 ≤ j ∧ j < 215) → ¬ (217 ≤ j ∧ j < 219) → m2 j x = mem j x := fun j x z1 z2 z3 => by rw [a1 j x (by omega) (by omega) z3]; exact hfr j x z1 z2 z3
        have hfs : fts (bcn m0 (Q + 3 + 7 * k) w (ns k) (nc k) (tb k) R) := by
          obtain ⟨ρ, κ, hf, hc⟩ := a3
          refine ⟨(List.range n').map ρ, by simp; exact hf.1, fun r hr => ?_⟩
          obtain ⟨i, hi, e'⟩ := hc.2 r (fun z => hr (onc_nz.mp z))
          exact List.mem_map.mpr ⟨i, List.mem_range.mpr hi, e'⟩
        have hls2 : lsR m2 213 214 h A := by
          obtain ⟨ρ, κ, hf, hc⟩ := hls
          exact ⟨ρ, κ, lsF_mono hf (fun x => a1 _ _ (by omega) (by omega) (by omega)) (fun x => a1 _ _ (by omega) (by omega) (by omega)), hc⟩
        have hAb : ∀ r, A r < 1073741824 := fun r => by
          by_cases hk0 : k = 0
          · rw [hA0 hk0]; exact (by decide : 0 < 1073741824)
          · rw [hA1 hk0]
            have h1 := ans_le (c := blc m0 Q w ns nc tb R) (sg := m0 (Q + 2)) (r := r) (k - 1) (fun k' hk' => hbl k' (by omega) r)
            have h3 : (k - 1 + 1) * 4096 ≤ 3 * 4096 := Nat.mul_le_mul_right _ (by omega)
            omega
        have go : ∀ s y : Int32, qsg s y → (fun r => sgf s (A r) (blc m0 Q w ns nc tb R k r)) = ans (blc m0 Q w ns nc tb R) (m0 (Q + 2)) k → QW (d + 4) mMo_run 80 (lMo_run_80 (qi q) (qi k)) [.int y, .ref 193] (hpo X m2 sw o e) P := by
          intro s y hsy hfun
          refine bMo_run_80 (d := d + 3) hX ?_
          refine cMo_merge (d := d + 2) (s := s) (cu := blc m0 Q w ns nc tb R k) hX (by rw [a1 _ _ (by omega) (by omega) (by omega)]; exact h29) hls2 a2 a3 hsy (fun r => ⟨hAb r, by have := hbl k (by omega) r; omega⟩) (fun m3 n3 c1 c2 c3 => ?_) (fun m3 c1 c2 => ?_)
          · rw [hfun] at c3
            refine qcl_i (bMo_run_83 hX (fun _ => ?_) (fun z => absurd z (by decide)))
            rw [qi_1]
            refine ih (k + 1) m3 n3 _ (by omega) (fun j x z1 z2 z3 => by rw [c1 j x (by omega) (by omega)]; exact fr2 j x z1 z2 z3) (by rw [c1 _ _ (by omega) (by omega), a1 _ _ (by omega) (by omega) (by omega)]; exact hc0) c2 c3 (fun z => by omega) (fun _ => by rw [Nat.add_sub_cancel]) (fun b hb' => ?_)
            rcases Nat.lt_or_eq_of_le (Nat.le_of_lt_succ hb') with h' | h'
            · exact hft b h'
            · subst h'
              refine ⟨hfs, ?_⟩
              obtain ⟨ρ, κ, hf, hc⟩ := c3
              refine ⟨(List.range n3).map ρ, by simp; exact hf.1, fun r hr => ?_⟩
              obtain ⟨i, hi, e'⟩ := hc.2 r hr
              exact List.mem_map.mpr ⟨i, List.mem_range.mpr hi, e'⟩
          · rw [hfun] at c2
            exact qcl_i (bMo_run_83 hX (fun z => absurd rfl z) (fun _ => bad m3 (fun j x z1 z2 z3 => by rw [c1 j x (by omega) (by omega)]; exact fr2 j x z1 z2 z3) (Or.inr c2)))
        have e2 : (2 : Int32) * qi q + qi k = qi (2 * q + k) := by rw [show (2 : Int32) = qi 2 from rfl, qi_mul, qi_add]
        refine qcl_i (bMo_run_56 hX (fun z => absurd z (by decide)) (fun _ z => ?_) (fun _ z => ?_) (fun _ z => ?_))
        · have hk0 : ¬ k = 0 := fun y => z (by rw [y]; rfl)
          rw [e2, show qi (2 * q + k) - 1 = qi (2 * q + k - 1) from qi_s1 (by omega)]
          exact qi_inx (by omega) (by omega)
        · have hk0 : ¬ k = 0 := fun y => z (by rw [y]; rfl)
          rw [e2, show qi (2 * q + k) - 1 = qi (2 * q + k - 1) from qi_s1 (by omega), qi_N (by omega)]
          have hs := hsg (k - 1) (by omega)
          rw [show 2 * q + (k - 1) = 2 * q + k - 1 by omega, ← fr2 200 (2 * q + k - 1) (by omega) (by omega) (by omega)] at hs
          refine go _ _ hs ?_
          obtain ⟨k', rfl⟩ : ∃ k', k = k' + 1 := ⟨k - 1, by omega⟩
          rw [hA1 (by omega)]
          rfl
        · have hk0 : k = 0 := qi_inj (b := 0) (by omega) (by omega) z
          refine go 43 0 (Or.inl ⟨rfl, rfl⟩) ?_
          rw [hA0 hk0, hk0]
          exact funext fun r => by unfold sgf; rw [if_pos rfl, Nat.zero_add]; rfl
      · exact qcl_i (bMo_run_56 hX (fun _ => bad m2 (fun j x z1 z2 z3 => by rw [a1 j x (by omega) (by omega) z3]; exact hfr j x z1 z2 z3) (Or.inl a2)) (fun z => absurd rfl z) (fun z => absurd rfl z) (fun z => absurd rfl z))
  exact lp nb 0 _ 0 (fun _ => 0) (by omega) (fun j x z1 _ _ => by rw [mup_q, if_neg (by omega), mup_q, if_neg (by omega)]) (by rw [mup_q, if_neg (by omega), mup_at]) (mup_at _ _ _ _) ⟨fun _ => (0, 0, 0), fun _ => 0, ⟨by omega, fun i hi => absurd hi (by omega), fun i j hi => absurd hi (by omega)⟩, fun i hi => absurd hi (by omega), fun r hr => absurd rfl hr⟩ (fun _ => rfl) (fun z => absurd rfl z) (fun b hb' => absurd hb' (by omega))
end MRU
/-- a question's blocks, as both sides run them -/
theorem qQ1_blk {m : Nat → Nat → Int32} {q cnt : Nat} {col row : Nat → Nat} (hq : q < 4) (hT : qT m cnt col row) (h : qQ1 m q cnt col) : ∃ (nb w : Nat) (ns nc : Nat → Nat) (tb : Nat → Nat → Nat), (1 ≤ nb ∧ nb ≤ 3) ∧ m (36 + 24 * q) 0 = qi nb ∧ m 199 q = qi nb ∧ (1 ≤ w ∧ w ≤ 3) ∧ m 202 (3 * q) = qi w ∧ (∀ b, b < nb → bko m (36 + 24 * q + 3 + 7 * b) w (ns b) (nc b) (tb b) row ∧ mko m m (36 + 24 * q + 3 + 7 * b) (3 * q + b) w (ns b) (nc b) (tb b) row) ∧ ∀ b, b + 1 < nb → qsg (m (36 + 24 * q + 2) b) (m 200 (2 * q + b)) := by
  obtain ⟨nb, h1, h2, h3, h4, h5, h6⟩ := h
  obtain ⟨t1, t2, t3, t4⟩ := hT
  have c3 : ∀ i, i < 4 → col i ≤ 3 := fun i hi => (t4 i hi).2.2.1
  have hB0 := h4 0 (by omega)
  obtain ⟨w, _, _, _, hw, _, _, _, hw2, _⟩ := hB0
  have key : ∀ b, ∃ p : Nat × Nat × (Nat → Nat), b < nb → (bko m (36 + 24 * q + 3 + 7 * b) w p.1 p.2.1 p.2.2 row ∧ mko m m (36 + 24 * q + 3 + 7 * b) (3 * q + b) w p.1 p.2.1 p.2.2 row) := by
    intro b
    by_cases hb : b < nb
    · obtain ⟨no, ns, nc, tb, g1, g2, g3, g4, g5, g6, g7, g8, g9, g10⟩ := h4 b hb
      have hno : no = w := by
        have e1 := h5 b hb
        rw [g5.1] at e1
        have e2 : m (39 + 24 * q) 1 = qi w := hw2.1
        rw [e2] at e1
        exact qi_inj (by omega) (by omega) e1
      subst hno
      rw [show 39 + 24 * q + 7 * b = 36 + 24 * q + 3 + 7 * b by omega] at g4 g5 g6 g7 g8 g9 g10
      have tb4 : ∀ k, k < ns → tb k < 4 := fun k hk => by have := (g8 k hk).1; omega
      have vl : ∀ sl v, qsl m (36 + 24 * q + 3 + 7 * b) sl v ns tb col → vlr m (36 + 24 * q + 3 + 7 * b) ns sl v := by
        rintro sl v (⟨a1, a2, a3, _⟩ | ⟨s, c, a1, a2, a3, a4, a5⟩)
        · exact Or.inl ⟨a1, a2, a3⟩
        · exact Or.inr ⟨s, c, a1, by have := c3 (tb s) (tb4 s a1); omega, a3, a4, a5⟩
      have vb : ∀ sl v, vlr m (36 + 24 * q + 3 + 7 * b) ns sl v → m (36 + 24 * q + 3 + 7 * b + 5) sl = -1 ∨ ∃ s c, s < ns ∧ c < 3 ∧ m (36 + 24 * q + 3 + 7 * b + 5) sl = qi s ∧ m (36 + 24 * q + 3 + 7 * b + 6) sl = qi c := by
        rintro sl v (⟨a1, _⟩ | ⟨s, c, a1, a2, a3, a4, _⟩)
        · exact Or.inl a1
        · exact Or.inr ⟨s, c, a1, a2, a3, a4⟩
      refine ⟨(ns, nc, tb), fun _ => ⟨⟨g1, g2.2, g3, g5.1, g6.1, g7.1, fun k hk => ⟨(g8 k hk).2.1, tb4 k hk⟩, fun t ht => ⟨(t4 t ht).2.2.2.1, (t4 t ht).2.2.2.2.2.1⟩, fun sl hsl => ?_⟩, ⟨by omega, g4.symm, g5.2, g6.2, g7.2, fun k hk => (g8 k hk).2.2, fun k hk => vl _ _ (g9 k hk), fun k hk => ⟨vl _ _ (g10 k hk).1, vl _ _ (g10 k hk).2.1, (g10 k hk).2.2.symm⟩, fun t ht => ⟨(t4 t ht).2.2.2.2.1, fun x hx => ((t4 t ht).2.2.2.2.2.2.1 x hx).symm⟩⟩⟩⟩
      have hsl' : usd no nc sl := hsl
      unfold usd at hsl'
      clear hsl
      rcases hsl' with hsl | hsl
      · exact vb _ _ (vl _ _ (g9 sl hsl.2))
      · rcases (show (sl - 3) % 2 = 0 ∨ (sl - 3) % 2 = 1 by omega) with hp | hp
        · have := vb _ _ (vl _ _ (g10 ((sl - 3) / 2) (by omega)).1)
          rw [show 3 + 2 * ((sl - 3) / 2) = sl by omega] at this
          exact this
        · have := vb _ _ (vl _ _ (g10 ((sl - 3) / 2) (by omega)).2.1)
          rw [show 4 + 2 * ((sl - 3) / 2) = sl by omega] at this
          exact this
    · exact ⟨(0, 0, fun _ => 0), fun z => absurd z hb⟩
  obtain ⟨fn, hfn⟩ := Classical.axiomOfChoice key
  refine ⟨nb, w, fun b => (fn b).1, fun b => (fn b).2.1, fun b => (fn b).2.2, h1, h2, h3, hw, hw2.2, fun b hb => hfn b hb, fun b hb => ?_⟩
  rw [show 36 + 24 * q + 2 = 38 + 24 * q by omega]
  exact h6 b hb
