def chu (ch : Nat → Nat) (s i : Nat) : Nat → Nat := fun k => if k = s then i else ch k
def smN (f : Nat → Nat) : Nat → Nat
  | 0 => 0
  | n + 1 => smN f n + f n
/-- F added up over all rows of the sources from s on -/
def csm (rs : Nat → Nat) (F : (Nat → Nat) → Nat) : Nat → Nat → (Nat → Nat) → Nat
  | 0, _, ch => F ch
  | g + 1, s, ch => smN (fun i => csm rs F g (s + 1) (chu ch s i)) (rs s)
/-- whether the rows chosen give the row r -/
noncomputable def hit (m : Nat → Nat → Int32) (B no nc : Nat) (tb : Nat → Nat) (r : qRw) (ch : Nat → Nat) : Nat := @ite _ ((∀ i, i < nc → cnd m B tb i ch) ∧ otr m B no tb ch = r) (Classical.propDecidable _) 1 0
theorem smN_c {f g : Nat → Nat} : ∀ n, (∀ i, i < n → f i = g i) → smN f n = smN g n
  | 0, _ => rfl
  | n + 1, h => by rw [smN, smN, smN_c n (fun i hi => h i (by omega)), h n (by omega)]
theorem smN_k (c : Nat) : ∀ n, smN (fun _ => c) n = n * c
  | 0 => by rw [Nat.zero_mul]; rfl
  | n + 1 => by rw [smN, smN_k c n, Nat.succ_mul]
theorem smN_0 {f : Nat → Nat} (n : Nat) (h : ∀ i, i < n → f i = 0) : smN f n = 0 := by
  rw [smN_c n h, smN_k, Nat.mul_zero]
theorem smN_le {f : Nat → Nat} (k : Nat) : ∀ j, smN f k ≤ smN f (k + j)
  | 0 => Nat.le_refl _
  | j + 1 => Nat.le_trans (smN_le k j) (Nat.le_add_right _ _)
theorem csm_0 {rs : Nat → Nat} {F : (Nat → Nat) → Nat} : ∀ g s ch, (∀ ch', (∀ k, k < s → ch' k = ch k) → F ch' = 0) → csm rs F g s ch = 0
  | 0, s, ch, h => h ch (fun _ _ => rfl)
  | g + 1, s, ch, h => smN_0 _ (fun i _ => csm_0 g (s + 1) (chu ch s i) (fun ch' hc => h ch' (fun k hk => by rw [hc k (by omega)]; exact if_neg (by omega))))
theorem csm_i {rs : Nat → Nat} {F : (Nat → Nat) → Nat} {s0 : Nat} (hF : ∀ ch i, F (chu ch s0 i) = F ch) (i : Nat) : ∀ g s ch, s0 < s → csm rs F g s (chu ch s0 i) = csm rs F g s ch
  | 0, s, ch, _ => hF ch i
  | g + 1, s, ch, hs => by
    rw [csm, csm]
    refine smN_c _ (fun j _ => ?_)
    have : chu (chu ch s0 i) s j = chu (chu ch s j) s0 i := funext fun k => by
      unfold chu
      by_cases h1 : k = s
      · rw [if_pos h1, if_neg (by omega), if_pos h1]
      · rw [if_neg h1]
        by_cases h2 : k = s0
        · rw [if_pos h2, if_pos h2]
        · rw [if_neg h2, if_neg h2, if_neg h1]
    rw [this]
    exact csm_i hF i g (s + 1) (chu ch s j) (by omega)
section CHO
variable {d : Nat} {P : qE → Prop} {X : qH} {sw : Bool} {o : Int64} {e : List Nat} {m0 : Nat → Nat → Int32} {B no ns nc t : Nat} {tb R : Nat → Nat}
theorem evs_c {sl : Nat} {ch ch' : Nat → Nat} (hb : bko m0 B no ns nc tb R) (hu : usd no nc sl) (h : ∀ s, s < ns → m0 (B + 5) sl = qi s → ch' s = ch s) : evs m0 B tb sl ch' = evs m0 B tb sl ch := by
  have hns := hb.2.1
  rcases hb.2.2.2.2.2.2.2.2 sl hu with h1 | ⟨s, c, h1, h2, h3, h4⟩
  · rw [evs, evs, if_pos h1, if_pos h1]
  · rw [evs, evs, if_neg (by rw [h3]; exact neg1 s (by omega)), if_neg (by rw [h3]; exact neg1 s (by omega)), h3, qi_N (a := s) (by omega), h s h1 h3]
theorem lst_c {i : Nat} (hb : bko m0 B no ns nc tb R) (hi : i < nc) : (lst m0 B i = -1 ∧ ∀ sl, sl = 3 + 2 * i ∨ sl = 4 + 2 * i → m0 (B + 5) sl = -1) ∨ ∃ x, x < ns ∧ lst m0 B i = qi x ∧ usr m0 B no nc x ∧ ∀ sl, sl = 3 + 2 * i ∨ sl = 4 + 2 * i → ∀ s, s < ns → m0 (B + 5) sl = qi s → s ≤ x := by
  have hns := hb.2.1
  have u3 : usd no nc (3 + 2 * i) := Or.inr (by omega)
  have u4 : usd no nc (4 + 2 * i) := Or.inr (by omega)
  have h3 := hb.2.2.2.2.2.2.2.2 _ u3
  have h4 := hb.2.2.2.2.2.2.2.2 _ u4
  have nn : ∀ s : Nat, s < ns → (-1 : Int32) < qi s := fun s hs => by
    have : (0 : Int32) ≤ qi s := (qi_le (a := 0) (by omega) (by omega)).mpr (by omega)
    exact Int32.lt_of_lt_of_le (by decide) this
  have n2 : ∀ s : Nat, s < ns → ¬ qi s < (-1 : Int32) := fun s hs => by
    have : (0 : Int32) ≤ qi s := (qi_le (a := 0) (by omega) (by omega)).mpr (by omega)
    exact fun z => absurd (Int32.lt_of_le_of_lt this z) (by decide)
  unfold lst
  rcases h3 with h3 | ⟨s, c, a1, a2, a3, a4⟩
  · rcases h4 with h4 | ⟨s', c', b1, b2, b3, b4⟩
    · refine Or.inl ⟨?_, ?_⟩
      · rw [h3, h4]; rfl
      · rintro sl (rfl | rfl)
        · exact h3
        · exact h4
    · refine Or.inr ⟨s', b1, ?_, ⟨_, u4, b3⟩, ?_⟩
      · rw [h3, b3, if_pos (nn s' b1)]
      · rintro sl (rfl | rfl) x hx hz
        · exact absurd (hz.symm.trans h3) (neg1 x (by omega))
        · exact Nat.le_of_eq (qi_inj (by omega) (by omega) (hz.symm.trans b3))
  · rcases h4 with h4 | ⟨s', c', b1, b2, b3, b4⟩
    · refine Or.inr ⟨s, a1, ?_, ⟨_, u3, a3⟩, ?_⟩
      · rw [h4, a3, if_neg (n2 s a1)]
      · rintro sl (rfl | rfl) x hx hz
        · exact Nat.le_of_eq (qi_inj (by omega) (by omega) (hz.symm.trans a3))
        · exact absurd (hz.symm.trans h4) (neg1 x (by omega))
    · rw [a3, b3]
      by_cases hlt : s < s'
      · refine Or.inr ⟨s', b1, ?_, ⟨_, u4, b3⟩, ?_⟩
        · rw [if_pos ((qi_lt (by omega) (by omega)).mpr hlt)]
        · rintro sl (rfl | rfl) x hx hz
          · have := qi_inj (by omega) (by omega) (hz.symm.trans a3); omega
          · have := qi_inj (by omega) (by omega) (hz.symm.trans b3); omega
      · refine Or.inr ⟨s, a1, ?_, ⟨_, u3, a3⟩, ?_⟩
        · rw [if_neg (fun z => hlt ((qi_lt (by omega) (by omega)).mp z))]
        · rintro sl (rfl | rfl) x hx hz
          · have := qi_inj (by omega) (by omega) (hz.symm.trans a3); omega
          · have := qi_inj (by omega) (by omega) (hz.symm.trans b3); omega
theorem cnd_c {i : Nat} {ch ch' : Nat → Nat} (hb : bko m0 B no ns nc tb R) (hi : i < nc) (h : ∀ sl, sl = 3 + 2 * i ∨ sl = 4 + 2 * i → ∀ s, s < ns → m0 (B + 5) sl = qi s → ch' s = ch s) : cnd m0 B tb i ch' ↔ cnd m0 B tb i ch := by
  unfold cnd
  rw [evs_c hb (Or.inr (by omega)) (h _ (Or.inl rfl)), evs_c hb (Or.inr (by omega)) (h _ (Or.inr rfl))]
theorem otr_c {ch ch' : Nat → Nat} (hb : bko m0 B no ns nc tb R) (h : ∀ sl, usd no nc sl → ∀ s, s < ns → m0 (B + 5) sl = qi s → ch' s = ch s) : otr m0 B no tb ch' = otr m0 B no tb ch := by
  unfold otr
  have h0 : usd no nc 0 := Or.inl ⟨by omega, hb.1.1⟩
  rw [evs_c hb h0 (h _ h0)]
  refine Prod.ext rfl (Prod.ext ?_ ?_)
  · show (if 1 < no then _ else _) = (if 1 < no then _ else _)
    by_cases h1 : 1 < no
    · rw [if_pos h1, if_pos h1, evs_c hb (Or.inl ⟨by omega, h1⟩) (h 1 (Or.inl ⟨by omega, h1⟩))]
    · rw [if_neg h1, if_neg h1]
  · show (if 2 < no then _ else _) = (if 2 < no then _ else _)
    by_cases h1 : 2 < no
    · rw [if_pos h1, if_pos h1, evs_c hb (Or.inl ⟨by omega, h1⟩) (h 2 (Or.inl ⟨by omega, h1⟩))]
    · rw [if_neg h1, if_neg h1]
theorem hit_c {ch ch' : Nat → Nat} {r : qRw} (hb : bko m0 B no ns nc tb R) (h : ∀ sl, usd no nc sl → ∀ s, s < ns → m0 (B + 5) sl = qi s → ch' s = ch s) : hit m0 B no nc tb r ch' = hit m0 B no nc tb r ch := by
  unfold hit
  rw [otr_c hb h]
  have : (∀ i, i < nc → cnd m0 B tb i ch') ↔ ∀ i, i < nc → cnd m0 B tb i ch := by
    constructor
    · intro hh i hi
      exact (cnd_c hb hi (fun sl hsl => h sl (Or.inr (by omega)))).mp (hh i hi)
    · intro hh i hi
      exact (cnd_c hb hi (fun sl hsl => h sl (Or.inr (by omega)))).mpr (hh i hi)
  by_cases hc : (∀ i, i < nc → cnd m0 B tb i ch) ∧ otr m0 B no tb ch = r
  · rw [if_pos hc, if_pos ⟨this.mpr hc.1, hc.2⟩]
  · rw [if_neg hc, if_neg (fun z => hc ⟨this.mp z.1, z.2⟩)]
theorem plCh (hX : X.length = 13) (hB : kBl B) (hB1 : 35 < B ∧ B < 150) (ht : kBag t) (ht1 : 160 < t ∧ t < 170) (hb : bko m0 B no ns nc tb R) : ∀ (g s wt : Nat) (P : qE → Prop) (ct : qRw → Nat) (ch : Nat → Nat) (m : Nat → Nat → Int32), s + g = ns → 0 < wt → sam m0 m B → (∀ s, s < 4 → (m 158 s = 0 ↔ ¬ usr m0 B no nc s)) → (∀ i, i < nc → m 159 i = lst m0 B i) → (∀ s', s' < s → usr m0 B no nc s' → m 157 s' = qi (ch s') ∧ ch s' < 8) → bgR m t no ct →
    (∀ i, i < nc → (∀ x, x < ns → lst m0 B i = qi x → x < s) → cnd m0 B tb i ch) →
    (∀ m', (∀ j q, ¬ (j = 157 ∧ s ≤ q) → ¬ j = 160 → ¬ (t ≤ j ∧ j < t + 3) → m' j q = m j q) → bgR m' t no (fun r => ct r + wt * csm (fun s => R (tb s)) (hit m0 B no nc tb r) g s ch) → P (.inl (some (.int 1)), hpo X m' sw o e)) →
    (∀ m', (∀ j q, ¬ (j = 157 ∧ s ≤ q) → ¬ j = 160 → ¬ (t ≤ j ∧ j < t + 3) → m' j q = m j q) → ¬ fts (fun r => ct r + wt * csm (fun s => R (tb s)) (hit m0 B no nc tb r) g s ch) → P (.inl (some (.int 0)), hpo X m' sw o e)) →
    QW (d + g + 1 + 1 + 1) mPlan_choose 0 (qen 8 [.ref 156, .int (qi s), .int (qi wt), .ref t, .ref B, .ref 14]) [] (hpo X m sw o e) P := by
  have hb' := hb
  obtain ⟨b1, b2, b3, b4, b5, b6, b7, b8, b9⟩ := hb'
  have usr_lt : ∀ s, s < 2147483648 → usr m0 B no nc s → s < ns := fun s hs ⟨sl, h1, h2⟩ => by
    rcases b9 sl h1 with h | ⟨s', c, h3, h4, h5, h6⟩
    · exact absurd (h2.symm.trans h) (neg1 s hs)
    · rw [qi_inj hs (by omega) (h2.symm.trans h5)]; exact h3
  intro g
  induction g with
  | zero =>
    intro s wt P ct ch m hsg hwt hsm h158 h159 hch hbg hcn k1 k0
    have hlt : ¬ qi s < m B 2 := by rw [hsm _ _ (by omega), b5, qi_lt (by omega) (by omega)]; omega
    have allc : ∀ i, i < nc → cnd m0 B tb i ch := fun i hi => hcn i hi (fun x hx _ => by omega)
    refine bPlan_choose_0 hX ht hB (fun z => absurd z hlt) (fun z => absurd z hlt) (fun z => absurd z hlt) (fun z => absurd z hlt) (fun z => absurd z hlt) (fun z => absurd z hlt) (fun _ => ?_)
    refine cPlan_setOutput (ch := ch) hX hB hb hsm hB1 (fun sl hsl s' h1 h2 => hch s' (by omega) ⟨sl, hsl, h1⟩) (fun m1 a1 a2 => qcl_v (bPlan_choose_17 hX ht hB ?_))
    have hfun : adC ct (rw3 m1 160 0 no) wt = fun r => ct r + wt * csm (fun s => R (tb s)) (hit m0 B no nc tb r) 0 s ch := funext fun r => by
      rw [a2]
      show (if r = otr m0 B no tb ch then ct r + wt else ct r) = ct r + wt * hit m0 B no nc tb r ch
      unfold hit
      by_cases hr : otr m0 B no tb ch = r
      · rw [if_pos hr.symm, if_pos ⟨allc, hr⟩, Nat.mul_one]
      · rw [if_neg (fun z => hr z.symm), if_neg (fun z => hr z.2), Nat.mul_zero]; rfl
    refine cBag_add (nr := 3) (p := 0) hX ht rfl (by omega) (bgR_mono hbg (fun j q h1 h2 => a1 _ _ (by omega))) b1 (by omega) (by omega) hwt (fun m2 c1 c2 => qcl_i (bPlan_choose_27 hX ht hB (by decide) (k1 m2 (fun j q z1 z2 z3 => by rw [c1 j q z3, a1 j q z2]) (by rw [← hfun]; exact c2)))) (fun c1 => qcl_i (bPlan_choose_27 hX ht hB (by decide) (k0 m1 (fun j q z1 z2 z3 => a1 j q z2) (by rw [← hfun]; exact c1))))
  | succ g ih =>
    intro s wt P ct ch m hsg hwt hsm h158 h159 hch hbg hcn k1 k0
    have hlt : qi s < m B 2 := by rw [hsm _ _ (by omega), b5, qi_lt (by omega) (by omega)]; omega
    have hi4 : inx (qi s) 4 := qi_inx (by omega) (by omega)
    have nS : Int32.toNatClampNeg (qi s) = s := qi_N (by omega)
    have hts := b7 s (by omega)
    have e1 : m (B + 1) s = qi (tb s) := by rw [hsm _ _ (by omega)]; exact hts.1
    have hr := b8 (tb s) hts.2
    have eR : m (16 + 3 * Int32.toNatClampNeg (m (B + 1) (Int32.toNatClampNeg (qi s)))) 1 = qi (R (tb s)) := by rw [nS, e1, qi_N (by omega), hsm _ _ (by omega)]; exact hr.1
    refine bPlan_choose_0 hX ht hB (fun _ => hi4) (fun _ => by rw [nS, e1]; exact qi_inx hts.2 (by omega)) (fun _ => hi4) (fun _ z => ?_) (fun _ z y => ?_) (fun _ z y => ?_) (fun z => absurd hlt z)
    · -- a source that a slot names: its rows one after the other
      rw [nS] at z
      have hus : usr m0 B no nc s := Classical.byContradiction fun hz => z ((h158 s (by omega)).mpr hz)
      rw [eR]
      have lp : ∀ f i ct' m1, i + f = R (tb s) → (∀ j q, ¬ (j = 157 ∧ s ≤ q) → ¬ j = 160 → ¬ (t ≤ j ∧ j < t + 3) → m1 j q = m j q) → (∀ r, ct' r = ct r + wt * smN (fun i => csm (fun s => R (tb s)) (hit m0 B no nc tb r) g (s + 1) (chu ch s i)) i) → bgR m1 t no ct' → QW (d + (g + 1) + 1 + 1 + 1) mPlan_choose 88 (lPlan_choose_88 (qi s) (qi wt) (qi (R (tb s))) (qi i) t B) [] (hpo X m1 sw o e) P := by
        intro f
        induction f with
        | zero =>
          intro i ct' m1 hi hfr hct hbm
          obtain rfl : i = R (tb s) := by omega
          refine bPlan_choose_88 hX ht hB (fun _ => k1 m1 hfr ?_) (fun y => absurd (Int32.le_refl _) y) (fun y => absurd (Int32.le_refl _) y)
          have : ct' = fun r => ct r + wt * csm (fun s => R (tb s)) (hit m0 B no nc tb r) (g + 1) s ch := funext fun r => hct r
          rw [← this]; exact hbm
        | succ f ih2 =>
          intro i ct' m1 hi hfr hct hbm
          have hle : ¬ qi (R (tb s)) ≤ qi i := by rw [qi_le (by omega) (by omega)]; omega
          refine bPlan_choose_88 hX ht hB (fun y => absurd y hle) (fun _ => hi4) (fun _ => ?_)
          rw [nS]
          have fr2 : ∀ j q, ¬ (j = 157 ∧ q = s) → mup m1 157 s (qi i) j q = m1 j q := fun j q a => by rw [mup_q, if_neg a]
          have x157 : mup m1 157 s (qi i) 157 s = qi i := mup_at _ _ _ _
          generalize mup m1 157 s (qi i) = m2 at fr2 x157 ⊢
          have all2 : ∀ j q, ¬ (j = 157 ∧ s ≤ q) → ¬ j = 160 → ¬ (t ≤ j ∧ j < t + 3) → m2 j q = m j q := fun j q z1 z2 z3 => by rw [fr2 j q (by omega), hfr j q z1 z2 z3]
          have sm2 : sam m0 m2 B := fun j q h => by rw [all2 j q (by omega) (by omega) (by omega)]; exact hsm j q h
          have ch2 : ∀ s', s' < s + 1 → usr m0 B no nc s' → m2 157 s' = qi (chu ch s i s') ∧ chu ch s i s' < 8 := fun s' h1 h2 => by
            unfold chu
            by_cases hs' : s' = s
            · rw [if_pos hs', hs']; exact ⟨x157, by omega⟩
            · rw [if_neg hs', all2 _ _ (by omega) (by omega) (by omega)]; exact hch s' (by omega) h2
          have bg2 : bgR m2 t no ct' := bgR_mono hbm (fun j q h1 h2 => fr2 _ _ (by omega))
          have l2 : ∀ i', i' < nc → m2 159 i' = lst m0 B i' := fun i' hi' => by rw [all2 _ _ (by omega) (by omega) (by omega)]; exact h159 i' hi'
          have nxt : ∀ r, ct r + wt * smN (fun i => csm (fun s => R (tb s)) (hit m0 B no nc tb r) g (s + 1) (chu ch s i)) (i + 1) = ct' r + wt * csm (fun s => R (tb s)) (hit m0 B no nc tb r) g (s + 1) (chu ch s i) := fun r => by
            rw [hct r, smN, Nat.mul_add]; omega
          refine cPlan_holdsAt (a := qi s) (ch := chu ch s i) hX hB hB1.1 hb sm2 l2 (fun i' hi' hl sl hsl s' h1 h2 => ?_) (fun hh => ?_) (fun hh => ?_)
          · rcases lst_c hb hi' with h' | ⟨x, hx1, hx2, hx3, hx4⟩
            · exact absurd (hl.symm.trans h'.1) (neg1 s (by omega))
            · have hxs : x = s := qi_inj (by omega) (by omega) (hx2.symm.trans hl)
              have := hx4 sl hsl s' h2 h1
              exact ch2 s' (by omega) ⟨sl, Or.inr (by omega), h1⟩
          · refine qcl_i (bPlan_choose_112 hX ht hB (fun y => absurd y (by decide)) (fun _ => ?_))
            rw [qi_1]
            refine ih (s + 1) wt _ ct' (chu ch s i) m2 (by omega) hwt sm2 (fun s' hs' => by rw [all2 _ _ (by omega) (by omega) (by omega)]; exact h158 s' hs') l2 ch2 bg2 (fun i' hi' hx => ?_) (fun m3 c1 c2 => ?_) (fun m3 c1 c2 => ?_)
            · by_cases hl : lst m0 B i' = qi s
              · exact hh i' hi' hl
              · refine (cnd_c hb hi' (fun sl hsl s' h1 h2 => ?_)).mpr (hcn i' hi' (fun x hx1 hx2 => ?_))
                · have : ¬ s' = s := fun hz => by
                    subst hz
                    rcases lst_c hb hi' with h' | ⟨x, hx1, hx2, hx3, hx4⟩
                    · exact absurd ((h'.2 sl hsl).symm.trans h2) (fun z => neg1 s' (by omega) z.symm)
                    · have h3 := hx x hx1 hx2
                      have h4 := hx4 sl hsl s' h1 h2
                      exact hl (by rw [hx2, show x = s' by omega])
                  exact if_neg this
                · have := hx x hx1 hx2
                  rcases Nat.lt_or_eq_of_le (Nat.le_of_lt_succ this) with h' | h'
                  · exact h'
                  · exact absurd (by rw [hx2, h']) hl
            · refine qcl_i (bPlan_choose_128 hX ht hB (fun _ => ?_) (fun y => absurd y (by decide)))
              rw [qi_1]
              exact ih2 (i + 1) _ m3 (by omega) (fun j q z1 z2 z3 => by rw [c1 j q (by omega) z2 z3, all2 j q z1 z2 z3]) (fun r => (nxt r).symm) c2
            · refine qcl_i (bPlan_choose_128 hX ht hB (fun y => absurd rfl y) (fun _ => k0 m3 (fun j q z1 z2 z3 => by rw [c1 j q (by omega) z2 z3, all2 j q z1 z2 z3]) (fts_mono (fun r hr => ?_) c2)))
              have h1 := nxt r
              have h2 := smN_le (f := fun i => csm (fun s => R (tb s)) (hit m0 B no nc tb r) g (s + 1) (chu ch s i)) (i + 1) (R (tb s) - (i + 1))
              rw [show i + 1 + (R (tb s) - (i + 1)) = R (tb s) by omega] at h2
              have h3 := Nat.mul_le_mul_left wt h2
              show ¬ ct r + wt * smN (fun i => csm (fun s => R (tb s)) (hit m0 B no nc tb r) g (s + 1) (chu ch s i)) (R (tb s)) = 0
              intro h4
              apply hr
              rw [← h1]
              omega
          · refine qcl_i (bPlan_choose_112 hX ht hB (fun _ => ?_) (fun y => absurd rfl y))
            rw [qi_1]
            obtain ⟨i', hi', hl, hn⟩ := hh
            have hz : ∀ r, csm (fun s => R (tb s)) (hit m0 B no nc tb r) g (s + 1) (chu ch s i) = 0 := fun r => by
              refine csm_0 g (s + 1) (chu ch s i) (fun ch' hc' => ?_)
              unfold hit
              refine if_neg (fun z' => hn ((cnd_c hb hi' (fun sl hsl s' h1 h2 => ?_)).mp (z'.1 i' hi')))
              rcases lst_c hb hi' with h' | ⟨x, hx1, hx2, hx3, hx4⟩
              · exact absurd (hl.symm.trans h'.1) (neg1 s (by omega))
              · have hxs : x = s := qi_inj (by omega) (by omega) (hx2.symm.trans hl)
                have := hx4 sl hsl s' h1 h2
                exact hc' s' (by omega)
            exact ih2 (i + 1) ct' m2 (by omega) all2 (fun r => by rw [nxt r, hz r, Nat.mul_zero]; rfl) bg2
      exact lp (R (tb s)) 0 ct m (by omega) (fun j q _ _ _ => rfl) (fun r => by rw [smN, Nat.mul_zero]; rfl) hbg
    · -- a source without rows that no slot names
      rw [eR] at y
      have hR0 : R (tb s) = 0 := qi_inj (b := 0) (by omega) (by omega) y
      refine bPlan_choose_79 hX ht hB (k1 m (fun j q _ _ _ => rfl) ?_)
      have : (fun r => ct r + wt * csm (fun s => R (tb s)) (hit m0 B no nc tb r) (g + 1) s ch) = ct := funext fun r => by
        show ct r + wt * smN (fun i => csm (fun s => R (tb s)) (hit m0 B no nc tb r) g (s + 1) (chu ch s i)) (R (tb s)) = ct r
        rw [hR0, smN, Nat.mul_zero]; rfl
      rw [this]; exact hbg
    · -- a source that no slot names: only counted
      rw [nS] at z
      have hus : ¬ usr m0 B no nc s := (h158 s (by omega)).mp z
      rw [eR] at y
      rw [eR, qi_1, qi_mul]
      have hR0 : ¬ R (tb s) = 0 := fun h => y (by rw [h]; rfl)
      have hfun : ∀ r, wt * R (tb s) * csm (fun s => R (tb s)) (hit m0 B no nc tb r) g (s + 1) ch = wt * csm (fun s => R (tb s)) (hit m0 B no nc tb r) (g + 1) s ch := fun r => by
        show _ = wt * smN (fun i => csm (fun s => R (tb s)) (hit m0 B no nc tb r) g (s + 1) (chu ch s i)) (R (tb s))
        have hF : ∀ ch' i, hit m0 B no nc tb r (chu ch' s i) = hit m0 B no nc tb r ch' := fun ch' i => hit_c hb (fun sl hsl s' _ h2 => by
          have hne : ¬ s' = s := fun hz => hus ⟨sl, hsl, by rw [← hz]; exact h2⟩
          exact if_neg hne)
        rw [smN_c (R (tb s)) (fun i _ => csm_i hF i g (s + 1) ch (by omega)), smN_k, Nat.mul_assoc]
      have hfun2 : (fun r => ct r + wt * R (tb s) * csm (fun s => R (tb s)) (hit m0 B no nc tb r) g (s + 1) ch) = fun r => ct r + wt * csm (fun s => R (tb s)) (hit m0 B no nc tb r) (g + 1) s ch := funext fun r => by rw [hfun r]
      refine ih (s + 1) (wt * R (tb s)) _ ct ch m (by omega) (Nat.mul_pos hwt (by omega)) hsm h158 h159 (fun s' h1 h2 => ?_) hbg (fun i' hi' hx => hcn i' hi' (fun x hx1 hx2 => ?_)) (fun m3 c1 c2 => qcl_i (bPlan_choose_76 hX ht hB (fun y' => absurd y' (by decide)) (fun _ => bPlan_choose_79 hX ht hB (k1 m3 (fun j q z1 z2 z3 => c1 j q (by omega) z2 z3) (by rw [← hfun2]; exact c2))))) (fun m3 c1 c2 => qcl_i (bPlan_choose_76 hX ht hB (fun _ => k0 m3 (fun j q z1 z2 z3 => c1 j q (by omega) z2 z3) (by rw [← hfun2]; exact c2)) (fun y' => absurd rfl y')))
      · have : ¬ s' = s := fun hz => hus (hz ▸ h2)
        exact hch s' (by omega) h2
      · have h1 := hx x hx1 hx2
        have : ¬ x = s := fun hz => by
          subst hz
          rcases lst_c hb hi' with h' | ⟨x', hx1', hx2', hx3', hx4'⟩
          · exact absurd (hx2.symm.trans h'.1) (neg1 x (by omega))
          · have : x' = x := qi_inj (by omega) (by omega) (hx2'.symm.trans hx2)
            exact hus (this ▸ hx3')
        omega
end CHO
