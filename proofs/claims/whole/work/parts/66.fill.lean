/-- how often a block has the row r, before 'set' -/
noncomputable def bcn (m : Nat → Nat → Int32) (B no ns nc : Nat) (tb R : Nat → Nat) (r : qRw) : Nat := csm (fun s => R (tb s)) (hit m B no nc tb r) ns 0 (fun _ => 0)
def onc (x : Int32) (ct : qRw → Nat) : qRw → Nat := fun r => if x = 0 then ct r else (if ct r = 0 then 0 else 1)
/-- the answer after the blocks 0 to b -/
def ans (c : Nat → qRw → Nat) (sg : Nat → Int32) : Nat → qRw → Nat
  | 0 => c 0
  | b + 1 => fun r => sgf (sg b) (ans c sg b r) (c (b + 1) r)
theorem bgR_fts {m : Nat → Nat → Int32} {t w : Nat} {ct : qRw → Nat} (h : bgR m t w ct) : fts ct := by
  obtain ⟨n, ρ, κ, hf, h1, h2⟩ := h
  refine ⟨(List.range n).map ρ, by simp; exact hf.2.2.1, fun r hr => ?_⟩
  obtain ⟨i, hi, e⟩ := h2 r hr
  exact List.mem_map.mpr ⟨i, List.mem_range.mpr hi, e⟩
theorem smN_b {f : Nat → Nat} {c : Nat} : ∀ n, (∀ i, i < n → f i ≤ c) → smN f n ≤ n * c
  | 0, _ => by rw [smN]; omega
  | n + 1, h => by
    have h1 := smN_b n (fun i hi => h i (by omega))
    have h2 := h n (by omega)
    rw [smN, Nat.succ_mul]; omega
theorem csm_le {rs : Nat → Nat} {F : (Nat → Nat) → Nat} (hF : ∀ ch, F ch ≤ 1) : ∀ g s ch, (∀ k, s ≤ k → k < s + g → rs k ≤ 8) → csm rs F g s ch ≤ 8 ^ g
  | 0, s, ch, _ => hF ch
  | g + 1, s, ch, h => by
    have h1 := smN_b (f := fun i => csm rs F g (s + 1) (chu ch s i)) (c := 8 ^ g) (rs s) (fun i _ => csm_le hF g (s + 1) (chu ch s i) (fun k h1 h2 => h k (by omega) (by omega)))
    have h2 := Nat.mul_le_mul_right (8 ^ g) (h s (Nat.le_refl _) (by omega))
    rw [Nat.pow_succ, Nat.mul_comm]
    exact Nat.le_trans h1 h2
theorem hit_1 {m : Nat → Nat → Int32} {B no nc : Nat} {tb : Nat → Nat} {r : qRw} (ch : Nat → Nat) : hit m B no nc tb r ch ≤ 1 := by
  unfold hit
  by_cases h : (∀ i, i < nc → cnd m B tb i ch) ∧ otr m B no tb ch = r
  · rw [if_pos h]; omega
  · rw [if_neg h]; omega
theorem bcn_le {m : Nat → Nat → Int32} {B no ns nc : Nat} {tb R : Nat → Nat} (hb : bko m B no ns nc tb R) (r : qRw) : bcn m B no ns nc tb R r ≤ 4096 := by
  have h1 := csm_le (rs := fun s => R (tb s)) (F := hit m B no nc tb r) (fun ch => hit_1 ch) ns 0 (fun _ => 0) (fun k _ h2 => (hb.2.2.2.2.2.2.2.1 (tb k) (hb.2.2.2.2.2.2.1 k (by omega)).2).2)
  have h2 : 8 ^ ns ≤ 8 ^ 4 := Nat.pow_le_pow_right (by omega) hb.2.1
  exact Nat.le_trans h1 h2
theorem onc_le {x : Int32} {ct : qRw → Nat} {r : qRw} : onc x ct r ≤ ct r := by
  unfold onc
  split
  · exact Nat.le_refl _
  · split <;> omega
theorem onc_nz {x : Int32} {ct : qRw → Nat} {r : qRw} : onc x ct r = 0 ↔ ct r = 0 := by
  unfold onc
  split
  · exact Iff.rfl
  · split <;> omega
theorem sgf_le {s : Int32} {a b : Nat} : sgf s a b ≤ a + b := by
  unfold sgf
  split
  · exact Nat.le_refl _
  · split <;> omega
theorem ans_le {c : Nat → qRw → Nat} {sg : Nat → Int32} {r : qRw} : ∀ b, (∀ k, k ≤ b → c k r ≤ 4096) → ans c sg b r ≤ (b + 1) * 4096
  | 0, h => by have := h 0 (Nat.le_refl _); rw [ans]; omega
  | b + 1, h => by
    have h1 := ans_le (sg := sg) (r := r) b (fun k hk => h k (by omega))
    have h2 := h (b + 1) (Nat.le_refl _)
    have h3 := sgf_le (s := sg b) (a := ans c sg b r) (b := c (b + 1) r)
    show sgf (sg b) (ans c sg b r) (c (b + 1) r) ≤ _
    omega
section FIL
variable {d : Nat} {P : qE → Prop} {X : qH} {sw : Bool} {o : Int64} {e : List Nat} {m0 mem : Nat → Nat → Int32} {B no ns nc t : Nat} {tb R : Nat → Nat}
theorem cPlan_fill (hX : X.length = 13) (hB : kBl B) (hB1 : 35 < B ∧ B < 150) (ht : kBag t) (ht1 : 160 < t ∧ t < 170) (hb : bko m0 B no ns nc tb R) (hs : sam m0 mem B)
    (k1 : ∀ m', (∀ j q, ¬ (157 ≤ j ∧ j < 161) → ¬ (t ≤ j ∧ j < t + 3) → m' j q = mem j q) → bgR m' t no (onc (m0 B 0) (bcn m0 B no ns nc tb R)) → fts (bcn m0 B no ns nc tb R) → P (.inl (some (.int 1)), hpo X m' sw o e))
    (k0 : ∀ m', (∀ j q, ¬ (157 ≤ j ∧ j < 161) → ¬ (t ≤ j ∧ j < t + 3) → m' j q = mem j q) → ¬ fts (bcn m0 B no ns nc tb R) → P (.inl (some (.int 0)), hpo X m' sw o e)) :
    QW (d + 8) mPlan_fill 0 (qen 4 [.ref 156, .ref t, .ref B, .ref 14]) [] (hpo X mem sw o e) P := by
  have hb' := hb
  obtain ⟨b1, b2, b3, b4, b5, b6, b7, b8, b9⟩ := hb'
  refine bPlan_fill_0 (d := d + 7) hX ht hB (bBag_clear_0 hX ht (qcl_v ?_))
  have fr1 : ∀ j q, ¬ (j = t ∧ q < 2) → mup (mup mem t 0 (mem B 1)) t 1 0 j q = mem j q := fun j q a => by (repeat (rw [mup_q]; first | rw [if_pos (by omega)] | rw [if_neg (by omega)]))
  have x0 : mup (mup mem t 0 (mem B 1)) t 1 0 t 0 = qi no := by (repeat (rw [mup_q]; first | rw [if_pos (by omega)] | rw [if_neg (by omega)])); rw [hs _ _ (by omega)]; exact b4
  have x1 : mup (mup mem t 0 (mem B 1)) t 1 0 t 1 = 0 := mup_at _ _ _ _
  generalize mup (mup mem t 0 (mem B 1)) t 1 0 = m1 at fr1 x0 x1 ⊢
  have hs1 : sam m0 m1 B := fun j q h => by rw [fr1 j q (by omega)]; exact hs j q h
  refine bPlan_fill_8 hX ht hB (cPlan_markUsed hX hB hb hs1 hB1 (fun m2 a1 a2 => qcl_v (bPlan_fill_13 hX ht hB ?_)))
  have hs2 : sam m0 m2 B := fun j q h => by rw [a1 j q (by omega)]; exact hs1 j q h
  refine cPlan_findLast hX hB hb hs2 hB1 (fun m3 c1 c2 => qcl_v (bPlan_fill_18 hX ht hB ?_))
  have hs3 : sam m0 m3 B := fun j q h => by rw [c1 j q (by omega)]; exact hs2 j q h
  have all3 : ∀ j q, ¬ (157 ≤ j ∧ j < 161) → ¬ (t ≤ j ∧ j < t + 3) → m3 j q = mem j q := fun j q z1 z2 => by rw [c1 j q (by omega), a1 j q (by omega), fr1 j q (by omega)]
  have bg3 : bgR m3 t no (fun _ => 0) := ⟨0, fun _ => (0, 0, 0), fun _ => 0, ⟨by rw [c1 _ _ (by omega), a1 _ _ (by omega)]; exact x0, by rw [c1 _ _ (by omega), a1 _ _ (by omega), x1]; rfl, by omega, fun i hi => absurd hi (by omega), fun i j _ hj => absurd hj (by omega)⟩, fun i hi => absurd hi (by omega), fun r hr => absurd rfl hr⟩
  -- behind the rows
  have tail : ∀ m4, (∀ j q, ¬ (157 ≤ j ∧ j < 161) → ¬ (t ≤ j ∧ j < t + 3) → m4 j q = mem j q) → bgR m4 t no (bcn m0 B no ns nc tb R) → QW (d + 8) mPlan_fill 42 (lPlan_fill_42 t B) [] (hpo X m4 sw o e) P := by
    intro m4 h1 h2
    have e0 : m4 B 0 = m0 B 0 := by rw [h1 _ _ (by omega) (by omega)]; exact hs _ _ (by omega)
    refine bPlan_fill_42 hX ht hB (fun z => bPlan_fill_53 hX ht hB (k1 m4 h1 ?_ (bgR_fts h2))) (fun z => ?_)
    · have : onc (m0 B 0) (bcn m0 B no ns nc tb R) = bcn m0 B no ns nc tb R := funext fun r => by unfold onc; rw [if_pos (by rw [← e0]; exact z)]
      rw [this]; exact h2
    · refine cBag_once hX ht b1.1 h2 (fun m5 g1 g2 => qcl_v (bPlan_fill_53 hX ht hB (k1 m5 (fun j q z1 z2 => by rw [g1 j q (by omega)]; exact h1 j q z1 z2) ?_ (bgR_fts h2))))
      have : onc (m0 B 0) (bcn m0 B no ns nc tb R) = fun r => if bcn m0 B no ns nc tb R r = 0 then 0 else 1 := funext fun r => by unfold onc; rw [if_neg (by rw [← e0]; exact z)]
      rw [this]; exact g2
  have noS : ∀ i, i < nc → lst m0 B i = -1 → ∀ sl, sl = 3 + 2 * i ∨ sl = 4 + 2 * i → ∀ s, m0 (B + 5) sl = qi s → s < ns → False := fun i hi hl sl hsl s h1 h2 => by
    rcases lst_c hb hi with h' | ⟨x, hx1, hx2, hx3, hx4⟩
    · exact neg1 s (by omega) (h1.symm.trans (h'.2 sl hsl))
    · exact neg1 x (by omega) (hx2.symm.trans hl)
  refine cPlan_holdsAt (ch := fun _ => 0) hX hB hB1.1 hb hs3 c2 (fun i hi hl sl hsl s h1 h2 => (noS i hi hl sl hsl s h1 h2).elim) (fun hh => ?_) (fun hh => ?_)
  · refine qcl_i (bPlan_fill_25 hX ht hB (fun z => absurd z (by decide)) (fun _ => ?_))
    have hd : d + 7 = d + (4 - ns) + ns + 1 + 1 + 1 := by omega
    have key := plCh (d := d + (4 - ns)) (sw := sw) (o := o) (e := e) hX hB hB1 ht ht1 hb ns 0 1 (qcl (d + 7) mPlan_fill 34 37 (lPlan_fill_37 t B) [] P) (fun _ => 0) (fun _ => 0) m3 (by omega) (by omega) hs3 (fun s hs' => by rw [c1 _ _ (by omega)]; exact a2 s hs') c2 (fun s' h1 => absurd h1 (by omega)) bg3 (fun i hi hx => ?_) (fun m4 g1 g2 => ?_) (fun m4 g1 g2 => ?_)
    · rw [hd]; rw [hd] at key; exact key
    · rcases lst_c hb hi with h' | ⟨x, hx1, hx2, hx3, hx4⟩
      · exact hh i hi h'.1
      · exact absurd (hx x hx1 hx2) (by omega)
    · refine qcl_i (bPlan_fill_37 hX ht hB (fun _ => tail m4 (fun j q z1 z2 => by rw [g1 j q (by omega) (by omega) z2]; exact all3 j q z1 z2) ?_) (fun z => absurd z (by decide)))
      have : (fun r => 0 + 1 * csm (fun s => R (tb s)) (hit m0 B no nc tb r) ns 0 (fun _ => 0)) = bcn m0 B no ns nc tb R := funext fun r => by rw [Nat.zero_add, Nat.one_mul]; rfl
      rw [← this]; exact g2
    · refine qcl_i (bPlan_fill_37 hX ht hB (fun z => absurd rfl z) (fun _ => k0 m4 (fun j q z1 z2 => by rw [g1 j q (by omega) (by omega) z2]; exact all3 j q z1 z2) ?_))
      have : (fun r => 0 + 1 * csm (fun s => R (tb s)) (hit m0 B no nc tb r) ns 0 (fun _ => 0)) = bcn m0 B no ns nc tb R := funext fun r => by rw [Nat.zero_add, Nat.one_mul]; rfl
      rw [← this]; exact g2
  · refine qcl_i (bPlan_fill_25 hX ht hB (fun _ => tail m3 all3 ?_) (fun z => absurd rfl z))
    obtain ⟨i, hi, hl, hn⟩ := hh
    have : bcn m0 B no ns nc tb R = fun _ => 0 := funext fun r => by
      unfold bcn
      refine csm_0 ns 0 _ (fun ch' _ => ?_)
      unfold hit
      exact if_neg (fun z => hn ((cnd_c hb hi (fun sl hsl s h1 h2 => (noS i hi hl sl hsl s h2 h1).elim)).mp (z.1 i hi)))
    rw [this]; exact bg3
end FIL
section ANS
variable {d : Nat} {P : qE → Prop} {X : qH} {sw : Bool} {o : Int64} {e : List Nat} {m0 : Nat → Nat → Int32} {Q nb w : Nat} {ns nc : Nat → Nat} {tb : Nat → Nat → Nat} {R : Nat → Nat}
/-- what block b of the question at Q counts -/
noncomputable def blc (m : Nat → Nat → Int32) (Q w : Nat) (ns nc : Nat → Nat) (tb : Nat → Nat → Nat) (R : Nat → Nat) (b : Nat) : qRw → Nat := onc (m (Q + 3 + 7 * b) 0) (bcn m (Q + 3 + 7 * b) w (ns b) (nc b) (tb b) R)
theorem cBp_answerInto (hX : X.length = 13) (hQ : kQu Q) (hQ1 : 35 < Q ∧ Q < 120) (hnb : 1 ≤ nb ∧ nb ≤ 3) (hn : m0 Q 0 = qi nb) (hb : ∀ b, b < nb → bko m0 (Q + 3 + 7 * b) w (ns b) (nc b) (tb b) R)
    (k1 : ∀ m', (∀ j q, ¬ (157 ≤ j ∧ j < 161) → ¬ (swp sw 164 ≤ j ∧ j < swp sw 164 + 3) → ¬ (167 ≤ j ∧ j < 170) → m' j q = m0 j q) → bgR m' (swp sw 164) w (ans (blc m0 Q w ns nc tb R) (m0 (Q + 2)) (nb - 1)) → (∀ b, b < nb → fts (bcn m0 (Q + 3 + 7 * b) w (ns b) (nc b) (tb b) R) ∧ fts (ans (blc m0 Q w ns nc tb R) (m0 (Q + 2)) b)) → P (.inl (some (.int 1)), hpo X m' sw o e))
    (k0 : ∀ m', (∀ j q, ¬ (157 ≤ j ∧ j < 161) → ¬ (swp sw 164 ≤ j ∧ j < swp sw 164 + 3) → ¬ (167 ≤ j ∧ j < 170) → m' j q = m0 j q) → (∃ b, b < nb ∧ (¬ fts (bcn m0 (Q + 3 + 7 * b) w (ns b) (nc b) (tb b) R) ∨ ¬ fts (ans (blc m0 Q w ns nc tb R) (m0 (Q + 2)) b))) → P (.inl (some (.int 0)), hpo X m' sw o e)) :
    QW (d + 9) mBp_answerInto 0 (qen 3 [.ref 13, .ref Q]) [] (hpo X m0 sw o e) P := by
  have hT : swp sw 164 = 161 ∨ swp sw 164 = 164 := by cases sw <;> simp [swp]
  have hkB : ∀ b, b < 3 → kBl (Q + 3 + 7 * b) := fun b h => (kQu_b hQ b h).1
  have hw3 := (hb 0 (by omega)).1
  have hbd : ∀ b, b < nb → ∀ r, blc m0 Q w ns nc tb R b r ≤ 4096 := fun b h r => Nat.le_trans onc_le (bcn_le (hb b h) r)
  have lp : ∀ f b m, b + f = nb → 1 ≤ b → (∀ j q, ¬ (157 ≤ j ∧ j < 161) → ¬ (swp sw 164 ≤ j ∧ j < swp sw 164 + 3) → ¬ (167 ≤ j ∧ j < 170) → m j q = m0 j q) → bgR m (swp sw 164) w (ans (blc m0 Q w ns nc tb R) (m0 (Q + 2)) (b - 1)) → (∀ b', b' < b → fts (bcn m0 (Q + 3 + 7 * b') w (ns b') (nc b') (tb b') R) ∧ fts (ans (blc m0 Q w ns nc tb R) (m0 (Q + 2)) b')) → QW (d + 9) mBp_answerInto 28 (lBp_answerInto_28 (qi b) Q) [] (hpo X m sw o e) P := by
    intro f
    induction f with
    | zero =>
      intro b m hbf hb1 hfr hbg hft
      obtain rfl : b = nb := by omega
      have hle : m Q 0 ≤ qi b := by rw [hfr _ _ (by omega) (by omega) (by omega), hn]; exact Int32.le_refl _
      exact bBp_answerInto_28 hX hQ (fun _ => k1 m hfr hbg hft) (fun z => absurd hle z) (fun z => absurd hle z)
    | succ f ih =>
      intro b m hbf hb1 hfr hbg hft
      have hle : ¬ m Q 0 ≤ qi b := by rw [hfr _ _ (by omega) (by omega) (by omega), hn, qi_le (by omega) (by omega)]; omega
      have nB : Int32.toNatClampNeg (qi b) = b := qi_N (by omega)
      refine bBp_answerInto_28 (d := d + 8) hX hQ (fun z => absurd z hle) (fun _ => qi_inx (by omega) (by omega)) (fun _ => ?_)
      rw [nB]
      refine cPlan_fill (d := d) hX (hkB b (by omega)) (by omega) kBag_167' (by omega) (hb b (by omega)) (fun j q h => hfr _ _ (by omega) (by omega) (by omega)) (fun m2 a1 a2 a3 => ?_) (fun m2 a1 a2 => ?_)
      · have fr2 : ∀ j q, ¬ (157 ≤ j ∧ j < 161) → ¬ (swp sw 164 ≤ j ∧ j < swp sw 164 + 3) → ¬ (167 ≤ j ∧ j < 170) → m2 j q = m0 j q := fun j q z1 z2 z3 => by rw [a1 j q z1 (by omega)]; exact hfr j q z1 z2 z3
        have e1 : qi b - 1 = qi (b - 1) := qi_s1 hb1
        have n1 : Int32.toNatClampNeg (qi b - 1) = b - 1 := by rw [e1, qi_N (by omega)]
        refine qcl_i (bBp_answerInto_57 (d := d + 8) hX hQ (fun z => absurd z (by decide)) (fun _ => by rw [e1]; exact qi_inx (by omega) (by omega)) (fun _ => ?_))
        rw [n1, show m2 (Q + 2) (b - 1) = m0 (Q + 2) (b - 1) from fr2 _ _ (by omega) (by omega) (by omega)]
        have hfun : (fun r => sgf (m0 (Q + 2) (b - 1)) (ans (blc m0 Q w ns nc tb R) (m0 (Q + 2)) (b - 1) r) (blc m0 Q w ns nc tb R b r)) = ans (blc m0 Q w ns nc tb R) (m0 (Q + 2)) b := by
          obtain ⟨b', rfl⟩ : ∃ b', b = b' + 1 := ⟨b - 1, by omega⟩
          rfl
        refine cBag_join (d := d + 4) (u := 167) (cu := blc m0 Q w ns nc tb R b) hX kBag_sw164 kBag_167' (by omega) hw3 (bgR_mono hbg (fun j q h1 h2 => a1 _ _ (by omega) (by omega))) a2 (fun r => ?_) (fun m3 c1 c2 => ?_) (fun m3 c1 c2 => ?_)
        · have h1 := ans_le (c := blc m0 Q w ns nc tb R) (sg := m0 (Q + 2)) (r := r) (b - 1) (fun k hk => hbd k (by omega) r)
          have h2 := hbd b (by omega) r
          have h3 : (b - 1 + 1) * 4096 ≤ 3 * 4096 := Nat.mul_le_mul_right _ (by omega)
          omega
        · rw [hfun] at c2
          refine qcl_i (bBp_answerInto_79 hX hQ (fun _ => ?_) (fun z => absurd z (by decide)))
          rw [qi_1]
          refine ih (b + 1) m3 (by omega) (by omega) (fun j q z1 z2 z3 => by rw [c1 j q z2]; exact fr2 j q z1 z2 z3) (by rw [Nat.add_sub_cancel]; exact c2) (fun b' hb' => ?_)
          rcases Nat.lt_or_eq_of_le (Nat.le_of_lt_succ hb') with h' | h'
          · exact hft b' h'
          · subst h'; exact ⟨a3, bgR_fts c2⟩
        · rw [hfun] at c2
          exact qcl_i (bBp_answerInto_79 hX hQ (fun z => absurd rfl z) (fun _ => k0 m3 (fun j q z1 z2 z3 => by rw [c1 j q z2]; exact fr2 j q z1 z2 z3) ⟨b, by omega, Or.inr c2⟩))
      · exact qcl_i (bBp_answerInto_57 (d := d + 8) hX hQ (fun _ => k0 m2 (fun j q z1 z2 z3 => by rw [a1 j q z1 (by omega)]; exact hfr j q z1 z2 z3) ⟨b, by omega, Or.inl a2⟩) (fun z => absurd rfl z) (fun z => absurd rfl z))
  refine bBp_answerInto_0 (d := d + 8) hX hQ ?_
  rw [show Q + 3 + 7 * Int32.toNatClampNeg 0 = Q + 3 + 7 * 0 from rfl]
  refine cPlan_fill (d := d) hX (hkB 0 (by omega)) (by omega) kBag_sw164 (by omega) (hb 0 (by omega)) (fun j q _ => rfl) (fun m2 a1 a2 a3 => ?_) (fun m2 a1 a2 => ?_)
  · refine qcl_i (bBp_answerInto_21 hX hQ (fun _ => ?_) (fun z => absurd z (by decide)))
    refine lp (nb - 1) 1 m2 (by omega) (by omega) (fun j q z1 z2 z3 => a1 j q z1 z2) a2 (fun b' hb' => ?_)
    obtain rfl : b' = 0 := by omega
    exact ⟨a3, bgR_fts a2⟩
  · exact qcl_i (bBp_answerInto_21 hX hQ (fun z => absurd rfl z) (fun _ => k0 m2 (fun j q z1 z2 z3 => a1 j q z1 z2) ⟨0, by omega, Or.inl a2⟩))
end ANS
