theorem smN_s {f : Nat → Nat} (a : Nat) : ∀ b, smN f (a + b) = smN f a + smN (fun i => f (a + i)) b
  | 0 => by rw [Nat.add_zero]; rfl
  | b + 1 => by
    show smN f (a + b) + f (a + b) = smN f a + (smN (fun i => f (a + i)) b + f (a + b))
    rw [smN_s a b, Nat.add_assoc]
theorem smN_a {f g : Nat → Nat} : ∀ n, smN (fun i => f i + g i) n = smN f n + smN g n
  | 0 => rfl
  | n + 1 => by
    rw [smN, smN, smN, smN_a n]; omega
theorem smN_p {f : Nat → Nat} (a : Nat) : ∀ p, smN f (a * p) = smN (fun i => smN (fun q => f (q * a + i)) p) a
  | 0 => by
    rw [Nat.mul_zero]
    exact (smN_0 a (fun i _ => rfl)).symm
  | p + 1 => by
    rw [Nat.mul_succ, smN_s, smN_p a p]
    have : (fun i => smN (fun q => f (q * a + i)) (p + 1)) = fun i => smN (fun q => f (q * a + i)) p + f (a * p + i) := funext fun i => by rw [smN, Nat.mul_comm p a]
    rw [this, smN_a]
/-- the rows that a number stands for: the rows of source s first -/
def fil (rs : Nat → Nat) : Nat → Nat → (Nat → Nat) → Nat → (Nat → Nat)
  | 0, _, ch, _ => ch
  | g + 1, s, ch, w => fil rs g (s + 1) (chu ch s (w % rs s)) (w / rs s)
def pqd (rs : Nat → Nat) : Nat → Nat → Nat
  | 0, _ => 1
  | g + 1, s => rs s * pqd rs g (s + 1)
theorem rad {rs : Nat → Nat} {F : (Nat → Nat) → Nat} : ∀ g s ch, smN (fun w => F (fil rs g s ch w)) (pqd rs g s) = csm rs F g s ch
  | 0, s, ch => by
    show smN (fun _ => F ch) 1 = F ch
    rw [smN_k, Nat.one_mul]
  | g + 1, s, ch => by
    rw [pqd, smN_p, csm]
    refine smN_c _ (fun i hi => ?_)
    rw [← rad g (s + 1) (chu ch s i)]
    refine smN_c _ (fun q _ => ?_)
    have hp : 0 < rs s := by omega
    rw [fil, show (q * rs s + i) % rs s = i by rw [Nat.mul_comm, Nat.mul_add_mod, Nat.mod_eq_of_lt hi], show (q * rs s + i) / rs s = q by rw [Nat.mul_comm, Nat.mul_add_div hp, Nat.div_eq_of_lt hi, Nat.add_zero]]
theorem pqd_le {rs : Nat → Nat} : ∀ g s, (∀ k, s ≤ k → k < s + g → rs k ≤ 8) → pqd rs g s ≤ 8 ^ g
  | 0, s, _ => Nat.le_refl _
  | g + 1, s, h => by
    rw [pqd, Nat.pow_succ, Nat.mul_comm]
    exact Nat.mul_le_mul (pqd_le g (s + 1) (fun k h1 h2 => h k (by omega) (by omega))) (h s (Nat.le_refl _) (by omega))
theorem pqd_0 {rs : Nat → Nat} : ∀ g s, 0 < pqd rs g s → ∀ k, s ≤ k → k < s + g → 0 < rs k
  | 0, s, _, k, h1, h2 => by omega
  | g + 1, s, h, k, h1, h2 => by
    rw [pqd] at h
    have hp := Nat.pos_of_mul_pos_left h
    have hq := Nat.pos_of_mul_pos_right h
    rcases Nat.lt_or_eq_of_le h1 with h' | h'
    · exact pqd_0 g (s + 1) (by first | exact hp | exact hq) k (by omega) (by omega)
    · subst h'
      first | exact hq | exact hp
section MTK
variable {d : Nat} {P : qE → Prop} {X : qH} {sw : Bool} {o : Int64} {e : List Nat} {m0 mem : Nat → Nat → Int32} {B mb no ns nc : Nat} {tb R : Nat → Nat}
theorem cMo_take (hX : X.length = 13) (hb : bko m0 B no ns nc tb R) (hm : mko mem m0 B mb no ns nc tb R)
    (k1 : ∀ m' n', (∀ j q, ¬ (j = 193 ∧ q = 26) → ¬ (211 ≤ j ∧ j < 213) → ¬ (217 ≤ j ∧ j < 219) → m' j q = mem j q) → m' 193 26 = qi n' → lsR m' 211 212 n' (onc (m0 B 0) (bcn m0 B no ns nc tb R)) → P (.inl (some (.int 1)), hpo X m' sw o e))
    (k0 : ∀ m', (∀ j q, ¬ (j = 193 ∧ q = 26) → ¬ (211 ≤ j ∧ j < 213) → ¬ (217 ≤ j ∧ j < 219) → m' j q = mem j q) → ¬ fts (bcn m0 B no ns nc tb R) → P (.inl (some (.int 0)), hpo X m' sw o e)) : QW (d + 1 + 1) mMo_take 0 (qen 6 [.ref 193, .int (qi mb)]) [] (hpo X mem sw o e) P := by
  have hm' := hm
  obtain ⟨h0, h1, h2, h3, h4, h5, h6, h7, h8⟩ := hm'
  have hns := hb.2.1
  have hmi : inx (qi mb) 15 := qi_inx h0 (by omega)
  have nM : Int32.toNatClampNeg (qi mb) = mb := qi_N (by omega)
  have htb : ∀ k, k < ns → tb k < 4 := fun k hk => (hb.2.2.2.2.2.2.1 k hk).2
  have hR8 : ∀ k, k < ns → R (tb k) ≤ 8 := fun k hk => (hb.2.2.2.2.2.2.2.1 (tb k) (htb k hk)).2
  have hW : pqd (fun s => R (tb s)) ns 0 ≤ 4096 := Nat.le_trans (pqd_le ns 0 (fun k _ hk => hR8 k (by omega))) (Nat.pow_le_pow_right (by omega) hns)
  have hbc : ∀ r, bcn m0 B no ns nc tb R r = smN (fun w => hit m0 B no nc tb r (fil (fun s => R (tb s)) ns 0 (fun _ => 0) w)) (pqd (fun s => R (tb s)) ns 0) := fun r => (rad ns 0 _).symm
  -- the ways, one after the other
  have lw : ∀ f w m n w4 w5, qfr w4 → qfr w5 → w + f = pqd (fun s => R (tb s)) ns 0 → (∀ j q, ¬ (j = 193 ∧ q = 26) → ¬ (211 ≤ j ∧ j < 213) → ¬ (217 ≤ j ∧ j < 219) → m j q = mem j q) → m 193 26 = qi n → lsR m 211 212 n (onc (m0 B 0) (fun r => smN (fun w => hit m0 B no nc tb r (fil (fun s => R (tb s)) ns 0 (fun _ => 0) w)) w)) → QW (d + 1 + 1) mMo_take 45 (lMo_take_45 (qi mb) (qi (pqd (fun s => R (tb s)) ns 0)) (qi w) w4 w5) [] (hpo X m sw o e) P := by
    intro f
    induction f with
    | zero =>
      intro w m n w4 w5 hw4 hw5 hwf hfr hn hl
      refine bMo_take_45 hX hw4 hw5 (fun _ => k1 m n hfr hn ?_) (fun z => absurd (by rw [show w = pqd (fun s => R (tb s)) ns 0 by omega]; exact Int32.le_refl _) z)
      have : (fun r => smN (fun w => hit m0 B no nc tb r (fil (fun s => R (tb s)) ns 0 (fun _ => 0) w)) w) = bcn m0 B no ns nc tb R := funext fun r => by rw [hbc r, show w = pqd (fun s => R (tb s)) ns 0 by omega]
      rw [this] at hl
      exact hl
    | succ f ih =>
      intro w m n w4 w5 hw4 hw5 hwf hfr hn hl
      have hle : ¬ qi (pqd (fun s => R (tb s)) ns 0) ≤ qi w := by rw [qi_le (by omega) (by omega)]; omega
      have hpos : ∀ k, k < ns → 0 < R (tb k) := fun k hk => pqd_0 (rs := fun s => R (tb s)) ns 0 (by omega) k (by omega) (by omega)
      refine bMo_take_45 hX hw4 hw5 (fun z => absurd z hle) (fun _ => ?_)
      -- the rows that w stands for
      have dg : ∀ f k rest ch m1, k + f = ns → rest ≤ w → (∀ j q, ¬ j = 217 → m1 j q = m j q) → (∀ s, s < k → m1 217 s = qi (ch s) ∧ ch s < 8) → fil (fun s => R (tb s)) f k ch rest = fil (fun s => R (tb s)) ns 0 (fun _ => 0) w → QW (d + 1 + 1) mMo_take 56 (lMo_take_56 (qi mb) (qi (pqd (fun s => R (tb s)) ns 0)) (qi w) (qi rest) (qi k)) [] (hpo X m1 sw o e) P := by
        intro f'
        induction f' with
        | zero =>
          intro k rest ch m1 hk hrest hfr1 hch hfil
          obtain rfl : k = ns := by omega
          have hch' : ch = fil (fun s => R (tb s)) k 0 (fun _ => 0) w := hfil
          have all1 : ∀ j q, ¬ (j = 193 ∧ q = 26) → ¬ (211 ≤ j ∧ j < 213) → ¬ (217 ≤ j ∧ j < 219) → m1 j q = mem j q := fun j q z1 z2 z3 => by rw [hfr1 j q (by omega)]; exact hfr j q z1 z2 z3
          have hm1 : mko m1 m0 B mb no k nc tb R := mko_mono hm (fun j q hj => all1 _ _ (by omega) (by omega) (by omega))
          have hle2 : m1 204 (Int32.toNatClampNeg (qi mb)) ≤ qi k := by rw [nM, hm1.2.2.2.1]; exact Int32.le_refl _
          have hn1 : m1 193 26 = qi n := by rw [hfr1 _ _ (by omega)]; exact hn
          have hl1 : lsR m1 211 212 n (onc (m0 B 0) (fun r => smN (fun w => hit m0 B no nc tb r (fil (fun s => R (tb s)) k 0 (fun _ => 0) w)) w)) := by
            obtain ⟨ρ, κ, ⟨l1, l2, l3⟩, l4⟩ := hl
            refine ⟨ρ, κ, ⟨l1, fun i hi => ?_, l3⟩, l4⟩
            rw [hfr1 _ _ (by omega), hfr1 _ _ (by omega), hfr1 _ _ (by omega), hfr1 _ _ (by omega)]
            exact l2 i hi
          refine bMo_take_56 hX hmi (fun _ => ?_) (fun z => absurd hle2 z) (fun z => absurd hle2 z) (fun z => absurd hle2 z) (fun z => absurd hle2 z) (fun z => absurd hle2 z) (fun z => absurd hle2 z) (fun z => absurd hle2 z) (fun z => absurd hle2 z)
          refine cMo_allTrue (ch := ch) hX hb hm1 hch (fun hall => ?_) (fun hall => ?_)
          · refine qcl_i (bMo_take_125 hX (fun z => absurd z (by decide)) (fun _ => ?_))
            have hfun : adC (fun r => smN (fun w => hit m0 B no nc tb r (fil (fun s => R (tb s)) k 0 (fun _ => 0) w)) w) (otr m0 B no tb ch) 1 = fun r => smN (fun w => hit m0 B no nc tb r (fil (fun s => R (tb s)) k 0 (fun _ => 0) w)) (w + 1) := funext fun r => by
              show (if r = otr m0 B no tb ch then smN _ w + 1 else smN _ w) = smN _ w + hit m0 B no nc tb r (fil (fun s => R (tb s)) k 0 (fun _ => 0) w)
              rw [← hch']
              unfold hit
              by_cases hr : otr m0 B no tb ch = r
              · rw [if_pos hr.symm, if_pos ⟨hall, hr⟩]
              · rw [if_neg (fun z => hr z.symm), if_neg (fun z => hr z.2), Nat.add_zero]
            refine cMo_count (ch := ch) hX hb hm1 hch hn1 hl1 (fun m2 n' c1 c2 c3 => ?_) (fun m2 c1 c2 => ?_)
            · rw [hfun] at c3
              refine qcl_i (bMo_take_133 hX (fun _ => ?_) (fun z => absurd z (by decide)))
              rw [qi_1]
              exact ih (w + 1) m2 n' _ _ (Or.inr (Or.inl ⟨_, rfl⟩)) (Or.inr (Or.inl ⟨_, rfl⟩)) (by omega) (fun j q z1 z2 z3 => by rw [c1 j q z1 z2 (by omega)]; exact all1 j q z1 z2 z3) c2 c3
            · rw [hfun] at c2
              refine qcl_i (bMo_take_133 hX (fun z => absurd rfl z) (fun _ => k0 m2 (fun j q z1 z2 z3 => by rw [c1 j q (by omega)]; exact all1 j q z1 z2 z3) (fts_mono (fun r hr => ?_) c2)))
              rw [hbc r]
              have := smN_le (f := fun w => hit m0 B no nc tb r (fil (fun s => R (tb s)) k 0 (fun _ => 0) w)) (w + 1) f
              rw [show w + 1 + f = pqd (fun s => R (tb s)) k 0 by omega] at this
              omega
          · refine qcl_i (bMo_take_125 hX (fun _ => ?_) (fun z => absurd rfl z))
            rw [qi_1]
            have hfun : (fun r => smN (fun w => hit m0 B no nc tb r (fil (fun s => R (tb s)) k 0 (fun _ => 0) w)) (w + 1)) = fun r => smN (fun w => hit m0 B no nc tb r (fil (fun s => R (tb s)) k 0 (fun _ => 0) w)) w := funext fun r => by
              show smN _ w + hit m0 B no nc tb r (fil (fun s => R (tb s)) k 0 (fun _ => 0) w) = smN _ w
              rw [← hch']
              unfold hit
              rw [if_neg (fun z => hall z.1), Nat.add_zero]
            exact ih (w + 1) m1 n _ _ (Or.inr (Or.inl ⟨_, rfl⟩)) (Or.inr (Or.inl ⟨_, rfl⟩)) (by omega) all1 hn1 (by rw [hfun]; exact hl1)
        | succ f' ih' =>
          intro k rest ch m1 hk hrest hfr1 hch hfil
          have all1 : ∀ j q, ¬ (j = 193 ∧ q = 26) → ¬ (211 ≤ j ∧ j < 213) → ¬ (217 ≤ j ∧ j < 219) → m1 j q = mem j q := fun j q z1 z2 z3 => by rw [hfr1 j q (by omega)]; exact hfr j q z1 z2 z3
          have hle2 : ¬ m1 204 (Int32.toNatClampNeg (qi mb)) ≤ qi k := by rw [nM, all1 _ _ (by omega) (by omega) (by omega), h3, qi_le (by omega) (by omega)]; omega
          have e4 : (4 : Int32) * qi mb + qi k = qi (4 * mb + k) := by rw [q4, qi_add]
          have nE : Int32.toNatClampNeg (4 * qi mb + qi k) = 4 * mb + k := by rw [e4, qi_N (by omega)]
          have hin : inx (4 * qi mb + qi k) 60 := by rw [e4]; exact qi_inx (by omega) (by omega)
          have e205 : m1 205 (Int32.toNatClampNeg (4 * qi mb + qi k)) = qi (tb k) := by rw [nE, all1 _ _ (by omega) (by omega) (by omega)]; exact h5 k (by omega)
          have ht4 := htb k (by omega)
          have hp := hpos k (by omega)
          have hr8 := hR8 k (by omega)
          have e195 : m1 195 (Int32.toNatClampNeg (m1 205 (Int32.toNatClampNeg (4 * qi mb + qi k)))) = qi (R (tb k)) := by rw [e205, qi_N (by omega), all1 _ _ (by omega) (by omega) (by omega)]; exact (h8 (tb k) ht4).1
          have nK : Int32.toNatClampNeg (qi k) = k := qi_N (by omega)
          have emod : qi rest - qi rest / qi (R (tb k)) * qi (R (tb k)) = qi (rest % R (tb k)) := by
            rw [qi_div (by omega) (by omega), qi_mul, qi_sub (Nat.div_mul_le_self _ _)]
            congr 1
            have := Nat.div_add_mod rest (R (tb k))
            rw [Nat.mul_comm] at this
            omega
          have hne : ¬ qi (R (tb k)) = 0 := fun z => by have := qi_inj (b := 0) (by omega) (by omega) z; omega
          have x205 : mup m1 217 (Int32.toNatClampNeg (qi k)) (qi rest - qi rest / m1 195 (Int32.toNatClampNeg (m1 205 (Int32.toNatClampNeg (4 * qi mb + qi k)))) * m1 195 (Int32.toNatClampNeg (m1 205 (Int32.toNatClampNeg (4 * qi mb + qi k))))) 205 (Int32.toNatClampNeg (4 * qi mb + qi k)) = qi (tb k) := by rw [mup_ce (by omega)]; exact e205
          have x195 : mup m1 217 (Int32.toNatClampNeg (qi k)) (qi rest - qi rest / m1 195 (Int32.toNatClampNeg (m1 205 (Int32.toNatClampNeg (4 * qi mb + qi k)))) * m1 195 (Int32.toNatClampNeg (m1 205 (Int32.toNatClampNeg (4 * qi mb + qi k))))) 195 (Int32.toNatClampNeg (qi (tb k))) = qi (R (tb k)) := by rw [mup_ce (by omega), ← e205]; exact e195
          refine bMo_take_56 hX hmi (fun z => absurd z hle2) (fun _ => hin) (fun _ => by rw [e205]; exact qi_inx ht4 (by omega)) (fun _ => by rw [e195]; exact hne) (fun _ => qi_inx (by omega) (by omega)) (fun _ => hin) (fun _ => by rw [x205]; exact qi_inx ht4 (by omega)) (fun _ => by rw [x205, x195]; exact hne) (fun _ => ?_)
          rw [x205, x195, e195, emod, nK, qi_1, qi_div (by omega) (by omega)]
          refine ih' (k + 1) (rest / R (tb k)) (chu ch k (rest % R (tb k))) _ (by omega) (Nat.le_trans (Nat.div_le_self _ _) hrest) (fun j q a => by rw [mup_ce a]; exact hfr1 j q a) (fun s hs => ?_) hfil
          unfold chu
          rw [mup_q]
          by_cases hsk : s = k
          · rw [if_pos ⟨rfl, hsk⟩, if_pos hsk]
            exact ⟨rfl, by have := Nat.mod_lt rest hp; omega⟩
          · rw [if_neg (fun z => hsk z.2), if_neg hsk]; exact hch s (by omega)
      exact dg ns 0 w (fun _ => 0) m (by omega) (Nat.le_refl _) (fun j q _ => rfl) (fun s hs => absurd hs (by omega)) rfl
  -- how many ways there are
  have ln : ∀ f k acc m, k + f = ns → acc * pqd (fun s => R (tb s)) f k = pqd (fun s => R (tb s)) ns 0 → (∀ j q, ¬ (j = 193 ∧ q = 26) → m j q = mem j q) → m 193 26 = 0 → QW (d + 1 + 1) mMo_take 9 (lMo_take_9 (qi mb) (qi acc) (qi k)) [] (hpo X m sw o e) P := by
    intro f
    induction f with
    | zero =>
      intro k acc m hk hacc hfr hn
      have hle2 : m 204 (Int32.toNatClampNeg (qi mb)) ≤ qi k := by rw [nM, hfr _ _ (by omega), h3, show k = ns by omega]; exact Int32.le_refl _
      refine bMo_take_9 hX hmi (fun _ => ?_) (fun z => absurd hle2 z) (fun z => absurd hle2 z) (fun z => absurd hle2 z)
      rw [show acc = pqd (fun s => R (tb s)) ns 0 by rw [← hacc, pqd, Nat.mul_one]]
      refine lw _ 0 m 0 .unset .unset (Or.inl rfl) (Or.inl rfl) (Nat.zero_add _) (fun j q z1 _ _ => hfr j q z1) (by rw [hn]; rfl) ⟨fun _ => (0, 0, 0), fun _ => 0, ⟨by omega, fun i hi => absurd hi (by omega), fun i j hi => absurd hi (by omega)⟩, fun i hi => absurd hi (by omega), fun r hr => absurd (onc_nz.mpr rfl) hr⟩
    | succ f ih =>
      intro k acc m hk hacc hfr hn
      have hle2 : ¬ m 204 (Int32.toNatClampNeg (qi mb)) ≤ qi k := by rw [nM, hfr _ _ (by omega), h3, qi_le (by omega) (by omega)]; omega
      have e4 : (4 : Int32) * qi mb + qi k = qi (4 * mb + k) := by rw [q4, qi_add]
      have nE : Int32.toNatClampNeg (4 * qi mb + qi k) = 4 * mb + k := by rw [e4, qi_N (by omega)]
      have e205 : m 205 (Int32.toNatClampNeg (4 * qi mb + qi k)) = qi (tb k) := by rw [nE, hfr _ _ (by omega)]; exact h5 k (by omega)
      have ht4 := htb k (by omega)
      refine bMo_take_9 hX hmi (fun z => absurd z hle2) (fun _ => by rw [e4]; exact qi_inx (by omega) (by omega)) (fun _ => by rw [e205]; exact qi_inx ht4 (by omega)) (fun _ => ?_)
      rw [e205, qi_N (a := tb k) (by omega), show m 195 (tb k) = qi (R (tb k)) by rw [hfr _ _ (by omega)]; exact (h8 (tb k) ht4).1, qi_mul, qi_1]
      exact ih (k + 1) (acc * R (tb k)) m (by omega) (by rw [Nat.mul_assoc]; exact hacc) hfr hn
  refine bMo_take_0 hX ?_
  exact ln ns 0 1 _ (by omega) (Nat.one_mul _) (fun j q a => by rw [mup_q, if_neg a]) (mup_at _ _ _ _)
end MTK
