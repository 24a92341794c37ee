/-- whether a slot is one of the block's -/
def usd (no nc sl : Nat) : Prop := (sl < 3 ∧ sl < no) ∨ (3 ≤ sl ∧ sl < 3 + 2 * nc)
/-- a block as a question holds it, and the tables of its sources, in the memory m -/
def bko (m : Nat → Nat → Int32) (B no ns nc : Nat) (tb R : Nat → Nat) : Prop := (1 ≤ no ∧ no ≤ 3) ∧ ns ≤ 4 ∧ nc ≤ 6 ∧ m B 1 = qi no ∧ m B 2 = qi ns ∧ m B 3 = qi nc ∧ (∀ k, k < ns → m (B + 1) k = qi (tb k) ∧ tb k < 4) ∧ (∀ t, t < 4 → m (16 + 3 * t) 1 = qi (R t) ∧ R t ≤ 8) ∧
  ∀ sl, usd no nc sl → m (B + 5) sl = -1 ∨ ∃ s c, s < ns ∧ c < 3 ∧ m (B + 5) sl = qi s ∧ m (B + 6) sl = qi c
/-- the value of a slot where row ch s of source s is chosen -/
def evs (m : Nat → Nat → Int32) (B : Nat) (tb : Nat → Nat) (sl : Nat) (ch : Nat → Nat) : Int32 := if m (B + 5) sl = -1 then m (B + 6) sl else m (16 + 3 * tb (Int32.toNatClampNeg (m (B + 5) sl)) + 2) (3 * ch (Int32.toNatClampNeg (m (B + 5) sl)) + Int32.toNatClampNeg (m (B + 6) sl))
def cnd (m : Nat → Nat → Int32) (B : Nat) (tb : Nat → Nat) (i : Nat) (ch : Nat → Nat) : Prop := if m (B + 3) i = 0 then evs m B tb (3 + 2 * i) ch = evs m B tb (4 + 2 * i) ch else evs m B tb (3 + 2 * i) ch < evs m B tb (4 + 2 * i) ch
def otr (m : Nat → Nat → Int32) (B no : Nat) (tb : Nat → Nat) (ch : Nat → Nat) : qRw := (evs m B tb 0 ch, if 1 < no then evs m B tb 1 ch else 0, if 2 < no then evs m B tb 2 ch else 0)
/-- block and tables lie there as in m -/
def sam (m m' : Nat → Nat → Int32) (B : Nat) : Prop := ∀ j q, (B ≤ j ∧ j < B + 7) ∨ (16 ≤ j ∧ j < 28) → m' j q = m j q
/-- source s is one that a slot names -/
def usr (m : Nat → Nat → Int32) (B no nc s : Nat) : Prop := ∃ sl, usd no nc sl ∧ m (B + 5) sl = qi s
/-- the last source of condition i: the larger one of its two -/
def lst (m : Nat → Nat → Int32) (B i : Nat) : Int32 := if m (B + 5) (3 + 2 * i) < m (B + 5) (4 + 2 * i) then m (B + 5) (4 + 2 * i) else m (B + 5) (3 + 2 * i)
section PLN
variable {d : Nat} {P : qE → Prop} {X : qH} {sw : Bool} {o : Int64} {e : List Nat} {m0 mem : Nat → Nat → Int32} {B no ns nc : Nat} {tb R : Nat → Nat}
theorem neg1 (s : Nat) (hs : s < 2147483648) : ¬ qi s = -1 := fun z => by
  have : ¬ qi s < 0 := qi_p hs
  rw [z] at this
  exact this (by decide)
theorem cBl_used {k : Nat} (hX : X.length = 13) (hB : kBl B) (h1 : mem B 1 = qi no) (h2 : mem B 3 = qi nc) (h3 : no ≤ 3) (h4 : nc ≤ 6) (hk : k < 15)
    (k1 : usd no nc k → P (.inl (some (.int 1)), hpo X mem sw o e)) (k0 : ¬ usd no nc k → P (.inl (some (.int 0)), hpo X mem sw o e)) : QW (d + 1) mBl_isUsed 0 (qen 2 [.ref B, .int (qi k)]) [] (hpo X mem sw o e) P := by
  unfold usd at k1 k0
  have e3 : ((3 : Int32) ≤ qi k) ↔ 3 ≤ k := qi_le (a := 3) (by omega) (by omega)
  refine bBl_isUsed_0 hX hB (fun x => bBl_lowSlot_0 hX (qcl_i ?_)) (fun x y => ?_) (fun x y => ?_)
  · rw [h2, q_low]
    rw [e3] at x
    refine bBl_isUsed_29 hX hB (fun z => ?_) (fun z => ?_)
    · rw [qi_le (by omega) (by omega)] at z
      exact k0 (by omega)
    · rw [qi_le (by omega) (by omega)] at z
      exact k1 (by omega)
  · rw [e3] at x
    rw [h1, qi_le (by omega) (by omega)] at y
    exact k0 (by omega)
  · rw [e3] at x
    rw [h1, qi_le (by omega) (by omega)] at y
    exact k1 (by omega)
theorem cPlan_valueOf {sl : Nat} {ch : Nat → Nat} (hX : X.length = 13) (hB : kBl B) (hb : bko m0 B no ns nc tb R) (hs : sam m0 mem B) (hu : usd no nc sl)
    (hch : ∀ s, m0 (B + 5) sl = qi s → s < ns → mem 157 s = qi (ch s) ∧ ch s < 8) (k : P (.inl (some (.int (evs m0 B tb sl ch))), hpo X mem sw o e)) : QW (d + 1) mPlan_valueOf 0 (qen 6 [.ref 156, .int (qi sl), .ref B, .ref 14]) [] (hpo X mem sw o e) P := by
  obtain ⟨b1, b2, b3, b4, b5, b6, b7, b8, b9⟩ := hb
  have hsl : sl < 15 := by unfold usd at hu; omega
  have hii : inx (qi sl) 15 := qi_inx hsl (by omega)
  have nI : Int32.toNatClampNeg (qi sl) = sl := qi_N (by omega)
  have e5 : mem (B + 5) sl = m0 (B + 5) sl := hs _ _ (by omega)
  have e6 : mem (B + 6) sl = m0 (B + 6) sl := hs _ _ (by omega)
  rcases b9 sl hu with h | ⟨s, c, h1, h2, h3, h4⟩
  · have hz : ¬ (0 : Int32) ≤ mem (B + 5) (Int32.toNatClampNeg (qi sl)) := by rw [nI, e5, h]; decide
    refine bPlan_valueOf_0 hX hB hii hii (fun z => absurd z hz) (fun z => absurd z hz) (fun z => absurd z hz) (fun z => absurd z hz) (fun _ => bPlan_valueOf_50 hX hB ?_)
    rw [nI, e6]
    rw [evs, if_pos h] at k
    exact k
  · have hc := hch s h3 h1
    have hz : (0 : Int32) ≤ mem (B + 5) (Int32.toNatClampNeg (qi sl)) := by rw [nI, e5, h3]; exact (qi_le (a := 0) (by omega) (by omega)).mpr (by omega)
    have ht := b7 s h1
    have e1 : mem (B + 1) s = qi (tb s) := by rw [hs _ _ (by omega)]; exact ht.1
    have nS : Int32.toNatClampNeg (qi s) = s := qi_N (by omega)
    have nT : Int32.toNatClampNeg (qi (tb s)) = tb s := qi_N (by omega)
    refine bPlan_valueOf_0 hX hB hii hii (fun _ => by rw [nI, e5, h3]; exact qi_inx (by omega) (by omega)) (fun _ => by rw [nI, e5, h3, nS, e1]; exact qi_inx ht.2 (by omega)) (fun _ => by rw [nI, e5, h3]; exact qi_inx (by omega) (by omega)) (fun _ => ?_) (fun z => absurd hz z)
    rw [nI, e5, h3, nS, e1, nT, hc.1, e6, h4]
    refine cTab_cell hX (kTab_at ht.2) (by omega) (by omega) (qcl_i (bPlan_valueOf_50 hX hB ?_))
    rw [evs, if_neg (by rw [h3]; exact neg1 s (by omega)), h3, nS, h4, qi_N (a := c) (by omega)] at k
    rw [hs _ _ (by omega), Nat.mul_comm (ch s) 3]
    exact k
/-- the conditions whose last source is a -/
theorem cPlan_holdsAt {a : Int32} {ch : Nat → Nat} (hX : X.length = 13) (hB : kBl B) (hB1 : 35 < B) (hb : bko m0 B no ns nc tb R) (hs : sam m0 mem B) (hl : ∀ i, i < nc → mem 159 i = lst m0 B i)
    (hch : ∀ i, i < nc → lst m0 B i = a → ∀ sl, sl = 3 + 2 * i ∨ sl = 4 + 2 * i → ∀ s, m0 (B + 5) sl = qi s → s < ns → mem 157 s = qi (ch s) ∧ ch s < 8)
    (k1 : (∀ i, i < nc → lst m0 B i = a → cnd m0 B tb i ch) → P (.inl (some (.int 1)), hpo X mem sw o e)) (k0 : (∃ i, i < nc ∧ lst m0 B i = a ∧ ¬ cnd m0 B tb i ch) → P (.inl (some (.int 0)), hpo X mem sw o e)) :
    QW (d + 1 + 1) mPlan_holdsAt 0 (qen 7 [.ref 156, .int a, .ref B, .ref 14]) [] (hpo X mem sw o e) P := by
  have hb' := hb
  obtain ⟨b1, b2, b3, b4, b5, b6, b7, b8, b9⟩ := hb'
  have e3 : mem B 3 = qi nc := by rw [hs _ _ (by omega)]; exact b6
  have lp : ∀ f i w5 w6, qfr w5 → qfr w6 → i + f = nc → (∀ x, x < i → lst m0 B x = a → cnd m0 B tb x ch) → QW (d + 1 + 1) mPlan_holdsAt 3 (lPlan_holdsAt_3 a (qi i) w5 w6 B) [] (hpo X mem sw o e) P := by
    intro f
    induction f with
    | zero =>
      intro i w5 w6 hw5 hw6 hi hd
      have hle : mem B 3 ≤ qi i := by rw [e3, show i = nc by omega]; exact Int32.le_refl _
      exact bPlan_holdsAt_3 hX hB hw5 hw6 (fun _ => k1 (fun x hx => hd x (by omega))) (fun z => absurd hle z) (fun z => absurd hle z) (fun z => absurd hle z)
    | succ f ih =>
      intro i w5 w6 hw5 hw6 hi hd
      have hle : ¬ mem B 3 ≤ qi i := by rw [e3, qi_le (by omega) (by omega)]; omega
      have hi6 : inx (qi i) 6 := qi_inx (by omega) (by omega)
      have nI : Int32.toNatClampNeg (qi i) = i := qi_N (by omega)
      have st : ∀ w5 w6, qfr w5 → qfr w6 → (lst m0 B i = a → cnd m0 B tb i ch) → QW (d + 1 + 1) mPlan_holdsAt 3 (lPlan_holdsAt_3 a (qi i + 1) w5 w6 B) [] (hpo X mem sw o e) P := by
        intro w5 w6 hw5 hw6 hc
        rw [qi_1]
        refine ih (i + 1) w5 w6 hw5 hw6 (by omega) (fun x hx => ?_)
        rcases Nat.lt_or_eq_of_le (Nat.le_of_lt_succ hx) with h' | h'
        · exact hd x h'
        · rw [h']; exact hc
      refine bPlan_holdsAt_3 hX hB hw5 hw6 (fun z => absurd z hle) (fun _ => hi6) (fun _ z => ?_) (fun _ z => ?_)
      · rw [nI, hl i (by omega)] at z
        exact st w5 w6 hw5 hw6 (fun y => absurd y z)
      · rw [nI, hl i (by omega)] at z
        refine bBl_lowSlot_0 hX (qcl_i (bPlan_holdsAt_29 hX hB hw5 hw6 ?_))
        rw [q_low]
        refine cPlan_valueOf (ch := ch) hX hB hb hs (Or.inr (by omega)) (fun s h1 h2 => hch i (by omega) z _ (Or.inl rfl) s h1 h2) (qcl_i (bPlan_holdsAt_34 hX hB hw5 hw6 (bBl_highSlot_0 hX (bBl_lowSlot_0 hX (qcl_i (bBl_highSlot_4 hX (qcl_i (bPlan_holdsAt_42 hX hB hw6 ?_))))))))
        rw [q_low, qi_1, show 3 + 2 * i + 1 = 4 + 2 * i by omega]
        have eb : mem (B + 3) (Int32.toNatClampNeg (qi i)) = m0 (B + 3) i := by rw [nI]; exact hs _ _ (by omega)
        refine cPlan_valueOf (ch := ch) hX hB hb hs (Or.inr (by omega)) (fun s h1 h2 => hch i (by omega) z _ (Or.inr rfl) s h1 h2) (qcl_i (bPlan_holdsAt_47 hX hB hw6 hi6 (fun y1 y2 => ?_) (fun y1 y2 => ?_) (fun y1 y2 => ?_) (fun y1 y2 => ?_)))
        · rw [eb] at y1
          exact st _ _ (Or.inr (Or.inl ⟨_, rfl⟩)) (Or.inr (Or.inl ⟨_, rfl⟩)) (fun _ => by rw [cnd, if_pos y1]; exact y2)
        · rw [eb] at y1
          exact k0 ⟨i, by omega, z, by rw [cnd, if_pos y1]; exact y2⟩
        · rw [eb] at y1
          exact st _ _ (Or.inr (Or.inl ⟨_, rfl⟩)) (Or.inr (Or.inl ⟨_, rfl⟩)) (fun _ => by rw [cnd, if_neg y1]; exact y2)
        · rw [eb] at y1
          exact k0 ⟨i, by omega, z, by rw [cnd, if_neg y1]; exact y2⟩
  exact bPlan_holdsAt_0 hX hB (lp nc 0 .unset .unset (Or.inl rfl) (Or.inl rfl) (by omega) (fun x hx => absurd hx (by omega)))
theorem cPlan_setOutput {ch : Nat → Nat} (hX : X.length = 13) (hB : kBl B) (hb : bko m0 B no ns nc tb R) (hs : sam m0 mem B) (hB1 : 35 < B ∧ B < 150)
    (hch : ∀ sl, usd no nc sl → ∀ s, m0 (B + 5) sl = qi s → s < ns → mem 157 s = qi (ch s) ∧ ch s < 8) (k : ∀ m', (∀ j q, ¬ j = 160 → m' j q = mem j q) → rw3 m' 160 0 no = otr m0 B no tb ch → P (.inl none, hpo X m' sw o e)) : QW (d + 1 + 1) mPlan_setOutput 0 (qen 4 [.ref 156, .ref B, .ref 14]) [] (hpo X mem sw o e) P := by
  have hb' := hb
  obtain ⟨b1, b2, b3, b4, b5, b6, b7, b8, b9⟩ := hb'
  have lp : ∀ f i m, i + f = no → (∀ j q, ¬ j = 160 → m j q = mem j q) → (∀ x, x < i → m 160 x = evs m0 B tb x ch) → QW (d + 1 + 1) mPlan_setOutput 2 (lPlan_setOutput_2 (qi i) B) [] (hpo X m sw o e) P := by
    intro f
    induction f with
    | zero =>
      intro i m hi hfr hd
      have hle : m B 1 ≤ qi i := by rw [hfr _ _ (by omega), hs _ _ (by omega), b4, show i = no by omega]; exact Int32.le_refl _
      refine bPlan_setOutput_2 hX hB (fun _ => k m hfr ?_) (fun z => absurd hle z)
      unfold rw3 otr
      refine Prod.ext (hd 0 (by omega)) (Prod.ext ?_ ?_)
      · show (if 1 < no then _ else _) = (if 1 < no then _ else _)
        by_cases h1 : 1 < no
        · rw [if_pos h1, if_pos h1]; exact hd 1 (by omega)
        · rw [if_neg h1, if_neg h1]
      · show (if 2 < no then _ else _) = (if 2 < no then _ else _)
        by_cases h1 : 2 < no
        · rw [if_pos h1, if_pos h1]; exact hd 2 (by omega)
        · rw [if_neg h1, if_neg h1]
    | succ f ih =>
      intro i m hi hfr hd
      have hle : ¬ m B 1 ≤ qi i := by rw [hfr _ _ (by omega), hs _ _ (by omega), b4, qi_le (by omega) (by omega)]; omega
      refine bPlan_setOutput_2 hX hB (fun z => absurd z hle) (fun _ => ?_)
      refine cPlan_valueOf (ch := ch) hX hB hb (fun j q h => by rw [hfr _ _ (by omega)]; exact hs j q h) (Or.inl (by omega)) (fun s h1 h2 => by rw [hfr _ _ (by omega)]; exact hch i (Or.inl (by omega)) s h1 h2) (qcl_i (bPlan_setOutput_22 hX hB (qi_inx (by omega) (by omega)) ?_))
      rw [qi_1, qi_N (by omega)]
      refine ih (i + 1) _ (by omega) (fun j q a => by rw [mup_ce a]; exact hfr j q a) (fun x hx => ?_)
      rw [mup_q]
      by_cases h1 : x = i
      · rw [if_pos ⟨rfl, h1⟩, h1]
      · rw [if_neg (fun z => h1 z.2)]; exact hd x (by omega)
  exact bPlan_setOutput_0 hX hB (lp no 0 mem (by omega) (fun j q _ => rfl) (fun x hx => absurd hx (by omega)))
theorem cPlan_markUsed (hX : X.length = 13) (hB : kBl B) (hb : bko m0 B no ns nc tb R) (hs : sam m0 mem B) (hB1 : 35 < B ∧ B < 150)
    (k : ∀ m', (∀ j q, ¬ j = 158 → m' j q = mem j q) → (∀ s, s < 4 → (m' 158 s = 0 ↔ ¬ usr m0 B no nc s)) → P (.inl none, hpo X m' sw o e)) : QW (d + 1 + 1) mPlan_markUsed 0 (qen 3 [.ref 156, .ref B]) [] (hpo X mem sw o e) P := by
  have hb' := hb
  obtain ⟨b1, b2, b3, b4, b5, b6, b7, b8, b9⟩ := hb'
  have l2 : ∀ f i m, i + f = 15 → (∀ j q, ¬ j = 158 → m j q = mem j q) → (∀ s, s < 4 → (m 158 s = 0 ↔ ¬ ∃ sl, sl < i ∧ usd no nc sl ∧ m0 (B + 5) sl = qi s)) → QW (d + 1 + 1) mPlan_markUsed 22 (lPlan_markUsed_22 (qi i) B) [] (hpo X m sw o e) P := by
    intro f
    induction f with
    | zero =>
      intro i m hi hfr hd
      obtain rfl : i = 15 := by omega
      refine bPlan_markUsed_22 hX hB (fun _ => k m hfr (fun s hs' => ?_)) (fun z => absurd (by decide) z)
      rw [hd s hs']
      constructor
      · rintro h ⟨sl, h1, h2⟩
        exact h ⟨sl, by unfold usd at h1; omega, h1, h2⟩
      · rintro h ⟨sl, _, h1, h2⟩
        exact h ⟨sl, h1, h2⟩
    | succ f ih =>
      intro i m hi hfr hd
      have h15 : ¬ (15 : Int32) ≤ qi i := fun z => by have := (qi_le (a := 15) (by omega) (by omega)).mp z; omega
      have hii : inx (qi i) 15 := qi_inx (by omega) (by omega)
      have nI : Int32.toNatClampNeg (qi i) = i := qi_N (by omega)
      have em : ∀ j q, (B ≤ j ∧ j < B + 7) → m j q = m0 j q := fun j q h => by rw [hfr _ _ (by omega), hs _ _ (Or.inl h)]
      have st : (∀ s, s < 4 → usd no nc i → ¬ m0 (B + 5) i = qi s) → QW (d + 1 + 1) mPlan_markUsed 22 (lPlan_markUsed_22 (qi i + 1) B) [] (hpo X m sw o e) P := by
        intro hno
        rw [qi_1]
        refine ih (i + 1) m (by omega) hfr (fun s hs' => ?_)
        rw [hd s hs']
        constructor
        · rintro h ⟨sl, h0, h1, h2⟩
          rcases Nat.lt_or_eq_of_le (Nat.le_of_lt_succ h0) with h' | h'
          · exact h ⟨sl, h', h1, h2⟩
          · subst h'; exact hno s hs' h1 h2
        · rintro h ⟨sl, h0, h1, h2⟩
          exact h ⟨sl, by omega, h1, h2⟩
      refine bPlan_markUsed_22 hX hB (fun z => absurd z h15) (fun _ => cBl_used (no := no) (nc := nc) hX hB (by rw [em _ _ (by omega)]; exact b4) (by rw [em _ _ (by omega)]; exact b6) b1.2 b3 (by omega) (fun hu => ?_) (fun hu => ?_))
      · have e5 : m (B + 5) (Int32.toNatClampNeg (qi i)) = m0 (B + 5) i := by rw [nI]; exact em _ _ (by omega)
        rcases b9 i hu with h | ⟨s, c, h1, h2, h3, h4⟩
        · refine qcl_i (bPlan_markUsed_33 hX hB (fun z => absurd z (by decide)) (fun _ => hii) (fun _ _ => st (fun s hs' _ hz => neg1 s (by omega) (hz.symm.trans h))) (fun _ _ => hii) (fun _ z => absurd (by rw [e5, h]; decide) z) (fun _ z => absurd (by rw [e5, h]; decide) z))
        · have hp : ¬ m (B + 5) (Int32.toNatClampNeg (qi i)) < 0 := by rw [e5, h3]; exact qi_p (by omega)
          refine qcl_i (bPlan_markUsed_33 hX hB (fun z => absurd z (by decide)) (fun _ => hii) (fun _ z => absurd z hp) (fun _ _ => hii) (fun _ _ => by rw [e5, h3]; exact qi_inx (by omega) (by omega)) (fun _ _ => ?_))
          rw [e5, h3, qi_N (a := s) (by omega), qi_1]
          refine ih (i + 1) _ (by omega) (fun j q a => by rw [mup_ce a]; exact hfr j q a) (fun s' hs' => ?_)
          rw [mup_q]
          by_cases hss : s' = s
          · subst hss
            rw [if_pos ⟨rfl, rfl⟩]
            exact ⟨fun z => absurd z (by decide), fun z => absurd ⟨i, by omega, hu, h3⟩ z⟩
          · rw [if_neg (fun z => hss z.2), hd s' hs']
            constructor
            · rintro h ⟨sl, h0, h1', h2'⟩
              rcases Nat.lt_or_eq_of_le (Nat.le_of_lt_succ h0) with h' | h'
              · exact h ⟨sl, h', h1', h2'⟩
              · subst h'
                exact hss (qi_inj (by omega) (by omega) (h2'.symm.trans h3))
            · rintro h ⟨sl, h0, h1', h2'⟩
              exact h ⟨sl, by omega, h1', h2'⟩
      · exact qcl_i (bPlan_markUsed_33 hX hB (fun _ => st (fun s _ y _ => hu y)) (fun z => absurd rfl z) (fun z => absurd rfl z) (fun z => absurd rfl z) (fun z => absurd rfl z) (fun z => absurd rfl z))
  have l1 : ∀ f i m, i + f = 4 → (∀ j q, ¬ j = 158 → m j q = mem j q) → (∀ s, s < i → m 158 s = 0) → QW (d + 1 + 1) mPlan_markUsed 2 (lPlan_markUsed_2 (qi i) B) [] (hpo X m sw o e) P := by
    intro f
    induction f with
    | zero =>
      intro i m hi hfr hd
      obtain rfl : i = 4 := by omega
      exact bPlan_markUsed_2 hX hB (fun _ => l2 15 0 m (by omega) hfr (fun s hs' => ⟨fun _ ⟨sl, h, _⟩ => absurd h (by omega), fun _ => hd s hs'⟩)) (fun z => absurd (by decide) z) (fun z => absurd (by decide) z)
    | succ f ih =>
      intro i m hi hfr hd
      have h4 : ¬ (4 : Int32) ≤ qi i := fun z => by have := (qi_le (a := 4) (by omega) (by omega)).mp z; omega
      refine bPlan_markUsed_2 hX hB (fun z => absurd z h4) (fun _ => qi_inx (by omega) (by omega)) (fun _ => ?_)
      rw [qi_1, qi_N (by omega)]
      refine ih (i + 1) _ (by omega) (fun j q a => by rw [mup_ce a]; exact hfr j q a) (fun s hs' => ?_)
      rw [mup_q]
      by_cases h1 : s = i
      · rw [if_pos ⟨rfl, h1⟩]
      · rw [if_neg (fun z => h1 z.2)]; exact hd s (by omega)
  exact bPlan_markUsed_0 hX hB (l1 4 0 mem (by omega) (fun j q _ => rfl) (fun s hs' => absurd hs' (by omega)))
theorem cPlan_findLast (hX : X.length = 13) (hB : kBl B) (hb : bko m0 B no ns nc tb R) (hs : sam m0 mem B) (hB1 : 35 < B ∧ B < 150)
    (k : ∀ m', (∀ j q, ¬ j = 159 → m' j q = mem j q) → (∀ i, i < nc → m' 159 i = lst m0 B i) → P (.inl none, hpo X m' sw o e)) : QW (d + 1 + 1) mPlan_findLastSources 0 (qen 3 [.ref 156, .ref B]) [] (hpo X mem sw o e) P := by
  have hb' := hb
  obtain ⟨b1, b2, b3, b4, b5, b6, b7, b8, b9⟩ := hb'
  have lp : ∀ f i m, i + f = nc → (∀ j q, ¬ j = 159 → m j q = mem j q) → (∀ x, x < i → m 159 x = lst m0 B x) → QW (d + 1 + 1) mPlan_findLastSources 2 (lPlan_findLastSources_2 (qi i) B) [] (hpo X m sw o e) P := by
    intro f
    induction f with
    | zero =>
      intro i m hi hfr hd
      have hle : m B 3 ≤ qi i := by rw [hfr _ _ (by omega), hs _ _ (by omega), b6, show i = nc by omega]; exact Int32.le_refl _
      exact bPlan_findLastSources_2 hX hB (fun _ => k m hfr (fun x hx => hd x (by omega))) (fun z => absurd hle z)
    | succ f ih =>
      intro i m hi hfr hd
      have hle : ¬ m B 3 ≤ qi i := by rw [hfr _ _ (by omega), hs _ _ (by omega), b6, qi_le (by omega) (by omega)]; omega
      refine bPlan_findLastSources_2 hX hB (fun z => absurd z hle) (fun _ => bBl_lowSlot_0 hX (qcl_i ?_))
      rw [q_low]
      refine bPlan_findLastSources_23 hX hB (qi_inx (by omega) (by omega)) ?_
      rw [qi_N (a := 3 + 2 * i) (by omega)]
      refine bBl_highSlot_0 hX (bBl_lowSlot_0 hX (qcl_i (bBl_highSlot_4 hX (qcl_i ?_))))
      rw [q_low, qi_1, show 3 + 2 * i + 1 = 4 + 2 * i by omega]
      refine bPlan_findLastSources_32 hX hB (qi_inx (by omega) (by omega)) (qi_inx (by omega) (by omega)) ?_
      rw [qi_1, qi_N (a := 4 + 2 * i) (by omega), qi_N (a := i) (by omega)]
      have e1 : m (B + 5) (3 + 2 * i) = m0 (B + 5) (3 + 2 * i) := by rw [hfr _ _ (by omega), hs _ _ (by omega)]
      have e2 : m (B + 5) (4 + 2 * i) = m0 (B + 5) (4 + 2 * i) := by rw [hfr _ _ (by omega), hs _ _ (by omega)]
      rw [e1, e2]
      refine ih (i + 1) _ (by omega) (fun j q a => by rw [mup_ce a]; exact hfr j q a) (fun x hx => ?_)
      rw [mup_q]
      by_cases h1 : x = i
      · rw [if_pos ⟨rfl, h1⟩, h1]; rfl
      · rw [if_neg (fun z => h1 z.2)]; exact hd x (by omega)
  exact bPlan_findLastSources_0 hX hB (lp nc 0 mem (by omega) (fun j q _ => rfl) (fun x hx => absurd hx (by omega)))
end PLN
