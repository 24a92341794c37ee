theorem fts_mono {a b : qRw → Nat} (h : ∀ r, ¬ a r = 0 → ¬ b r = 0) (hn : ¬ fts a) : ¬ fts b := by
  rintro ⟨l, h1, h2⟩
  exact hn ⟨l, h1, fun r hr => h2 r (h r hr)⟩
/-- the counts of the first k rows -/
def sfx (ρ : Nat → qRw) (κ : Nat → Nat) (r : qRw) : Nat → Nat
  | 0 => 0
  | k + 1 => sfx ρ κ r k + (if ρ k = r then κ k else 0)
theorem sfx_no {ρ : Nat → qRw} {κ : Nat → Nat} {r : qRw} : ∀ k, (∀ i, i < k → ¬ ρ i = r) → sfx ρ κ r k = 0
  | 0, _ => rfl
  | k + 1, h => by rw [sfx, sfx_no k (fun i hi => h i (by omega)), if_neg (h k (by omega))]
theorem sfx_one {ρ : Nat → qRw} {κ : Nat → Nat} {r : qRw} {j : Nat} : ∀ k, j < k → ρ j = r → (∀ i, i < k → ¬ i = j → ¬ ρ i = r) → sfx ρ κ r k = κ j
  | 0, h, _, _ => absurd h (by omega)
  | k + 1, h, hj, hn => by
    rw [sfx]
    by_cases hk : j = k
    · subst hk
      rw [sfx_no j (fun i hi => hn i (by omega) (by omega)), if_pos hj, Nat.zero_add]
    · rw [sfx_one k (by omega) hj (fun i hi => hn i (by omega)), if_neg (hn k (by omega) (fun z => hk z.symm)), Nat.add_zero]
theorem sfx_all {n : Nat} {ρ : Nat → qRw} {κ : Nat → Nat} {ct : qRw → Nat} (hd : ∀ i j, i < j → j < n → rlt (ρ i) (ρ j)) (h : isC n ρ κ ct) (r : qRw) : sfx ρ κ r n = ct r := by
  by_cases hr : ct r = 0
  · rw [hr]
    by_cases hex : ∃ i, i < n ∧ ρ i = r
    · obtain ⟨i, hi, e⟩ := hex
      rw [sfx_one n hi e (fun j hj hne hz => ?_), ← h.1 i hi, e, hr]
      rcases Nat.lt_or_gt_of_ne hne with h' | h'
      · have := hd j i h' hi
        rw [hz, e] at this; exact rlt_ir this
      · have := hd i j h' hj
        rw [hz, e] at this; exact rlt_ir this
    · exact sfx_no n (fun i hi hz => hex ⟨i, hi, hz⟩)
  · obtain ⟨i, hi, e⟩ := h.2 r hr
    rw [sfx_one n hi e (fun j hj hne hz => ?_), ← h.1 i hi, e]
    rcases Nat.lt_or_gt_of_ne hne with h' | h'
    · have := hd j i h' hi
      rw [hz, e] at this; exact rlt_ir this
    · have := hd i j h' hj
      rw [hz, e] at this; exact rlt_ir this
theorem sfx_le {ρ : Nat → qRw} {κ : Nat → Nat} {r : qRw} (k : Nat) : ∀ j, sfx ρ κ r k ≤ sfx ρ κ r (k + j)
  | 0 => Nat.le_refl _
  | j + 1 => Nat.le_trans (sfx_le k j) (Nat.le_add_right _ _)
theorem qi_s0 {a b : Nat} (ha : a < 1073741824) (hb : b < 1073741824) : qi a - qi b ≤ 0 ↔ a ≤ b := by
  have e : ∀ x : Nat, x < 1073741824 → (qi x).toInt = (x : Int) := fun x hx => Int32.toInt_ofNat_of_lt (by omega)
  rw [Int32.le_iff_toInt_le, Int32.toInt_sub, e a ha, e b hb, Int32.toInt_zero]
  rw [Int.bmod_eq_of_le_mul_two (by omega) (by omega)]
  omega
section BGJ
variable {d : Nat} {P : qE → Prop} {X : qH} {sw : Bool} {o : Int64} {e : List Nat} {mem : Nat → Nat → Int32} {t w : Nat}
theorem cBag_once {ct : qRw → Nat} (hX : X.length = 13) (ht : kBag t) (hw : 1 ≤ w) (hb : bgR mem t w ct)
    (k : ∀ m', (∀ j q, ¬ (j = t + 2) → m' j q = mem j q) → bgR m' t w (fun r => if ct r = 0 then 0 else 1) → P (.inl none, hpo X m' sw o e)) :
    QW d mBag_countEachOnce 0 (qen 2 [.ref t]) [] (hpo X mem sw o e) P := by
  obtain ⟨n, ρ, κ, ⟨b1, b2, b3, b4, b5⟩, hi1, hi2⟩ := hb
  have lp : ∀ f i m, i + f = n → (∀ j q, ¬ (j = t + 2) → m j q = mem j q) → (∀ x, x < i → m (t + 2) x = 1) → QW d mBag_countEachOnce 2 (lBag_countEachOnce_2 (qi i) t) [] (hpo X m sw o e) P := by
    intro f
    induction f with
    | zero =>
      intro i m hi hfr hone
      obtain rfl : i = n := by omega
      have hle : m t 1 ≤ qi i := by rw [hfr _ _ (by omega), b2]; exact Int32.le_refl _
      refine bBag_countEachOnce_2 hX ht (fun _ => k m hfr ⟨i, ρ, fun _ => 1, ⟨by rw [hfr _ _ (by omega)]; exact b1, by rw [hfr _ _ (by omega)]; exact b2, b3, fun x hx => ⟨?_, hone x hx, Nat.zero_lt_one⟩, b5⟩, fun x hx => ?_, fun r hr => ?_⟩) (fun z => absurd hle z) (fun z => absurd hle z)
      · rw [← (b4 x hx).1]; exact rw3_c (fun c _ => hfr _ _ (by omega)) hw
      · have h1 := hi1 x hx
        have h2 := (b4 x hx).2.2
        dsimp only
        rw [if_neg (by omega)]
      · dsimp only at hr
        by_cases h0 : ct r = 0
        · rw [if_pos h0] at hr; exact absurd rfl hr
        · exact hi2 r h0
    | succ f ih =>
      intro i m hi hfr hone
      have hle : ¬ m t 1 ≤ qi i := by rw [hfr _ _ (by omega), b2, qi_le (by omega) (by omega)]; omega
      refine bBag_countEachOnce_2 hX ht (fun z => absurd z hle) (fun _ => qi_inx (by omega) (by omega)) (fun _ => ?_)
      rw [qi_1, qi_N (by omega)]
      refine ih (i + 1) _ (by omega) (fun j q a => by rw [mup_ce a]; exact hfr j q a) (fun x hx => ?_)
      rw [mup_q]
      by_cases h1 : x = i
      · rw [if_pos ⟨rfl, h1⟩]
      · rw [if_neg (fun z => h1 z.2)]; exact hone x (by omega)
  exact bBag_countEachOnce_0 hX ht (lp n 0 mem (by omega) (fun j q _ => rfl) (fun x hx => absurd hx (by omega)))
theorem cBag_addAll {u : Nat} {ct cu : qRw → Nat} (hX : X.length = 13) (ht : kBag t) (hu : kBag u) (htu : u + 2 < t ∨ t + 2 < u) (hw3 : 1 ≤ w ∧ w ≤ 3) (hb : bgR mem t w ct) (hc : bgR mem u w cu)
    (k1 : ∀ m', (∀ j q, ¬ (t ≤ j ∧ j < t + 3) → m' j q = mem j q) → bgR m' t w (fun r => ct r + cu r) → P (.inl (some (.int 1)), hpo X m' sw o e))
    (k0 : ∀ m', (∀ j q, ¬ (t ≤ j ∧ j < t + 3) → m' j q = mem j q) → ¬ fts (fun r => ct r + cu r) → P (.inl (some (.int 0)), hpo X m' sw o e)) :
    QW (d + 1 + 1 + 1) mBag_addAll 0 (qen 3 [.ref t, .ref u]) [] (hpo X mem sw o e) P := by
  obtain ⟨n, ρ, κ, hF, hC⟩ := hc
  have hF' := hF
  obtain ⟨b1, b2, b3, b4, b5⟩ := hF'
  have lp : ∀ f i m, i + f = n → (∀ j q, ¬ (t ≤ j ∧ j < t + 3) → m j q = mem j q) → bgR m t w (fun r => ct r + sfx ρ κ r i) → QW (d + 1 + 1 + 1) mBag_addAll 2 (lBag_addAll_2 (qi i) t u) [] (hpo X m sw o e) P := by
    intro f
    induction f with
    | zero =>
      intro i m hi hfr hbm
      obtain rfl : i = n := by omega
      have hle : m u 1 ≤ qi i := by rw [hfr _ _ (by omega), b2]; exact Int32.le_refl _
      refine bBag_addAll_2 hX ht hu (fun _ => k1 m hfr ?_) (fun z => absurd hle z) (fun z => absurd hle z)
      have : (fun r => ct r + sfx ρ κ r i) = fun r => ct r + cu r := funext fun r => by rw [sfx_all b5 hC]
      rw [← this]; exact hbm
    | succ f ih =>
      intro i m hi hfr hbm
      have hle : ¬ m u 1 ≤ qi i := by rw [hfr _ _ (by omega), b2, qi_le (by omega) (by omega)]; omega
      have hbi := b4 i (by omega)
      have e3 : qi i * 3 = qi (3 * i) := by rw [show (3 : Int32) = qi 3 from rfl, qi_mul, Nat.mul_comm]
      refine bBag_addAll_2 hX ht hu (fun z => absurd z hle) (fun _ => qi_inx (by omega) (by omega)) (fun _ => ?_)
      rw [e3, qi_N (by omega), show m (u + 2) i = qi (κ i) by rw [hfr _ _ (by omega)]; exact hbi.2.1]
      have hrow : rw3 m (u + 1) (3 * i) w = ρ i := by rw [← hbi.1]; exact rw3_c (fun c _ => hfr _ _ (by omega)) hw3.1
      have hadd : adC (fun r => ct r + sfx ρ κ r i) (rw3 m (u + 1) (3 * i) w) (κ i) = fun r => ct r + sfx ρ κ r (i + 1) := funext fun r => by
        rw [hrow]
        show (if r = ρ i then ct r + sfx ρ κ r i + κ i else ct r + sfx ρ κ r i) = ct r + (sfx ρ κ r i + (if ρ i = r then κ i else 0))
        by_cases hr : r = ρ i
        · rw [if_pos hr, if_pos hr.symm]; omega
        · rw [if_neg hr, if_neg (fun z => hr z.symm)]; omega
      refine cBag_add (nr := 192) hX ht (kBag_1 hu) (by omega) hbm hw3 (by omega) (by omega) hbi.2.2 (fun m' a1 a2 => ?_) (fun a1 => ?_)
      · rw [hadd] at a2
        refine qcl_i (bBag_addAll_27 hX ht hu (fun _ => ?_) (fun z => absurd z (by decide)))
        rw [qi_1]
        exact ih (i + 1) m' (by omega) (fun j q a => by rw [a1 j q a, hfr j q a]) a2
      · rw [hadd] at a1
        refine qcl_i (bBag_addAll_27 hX ht hu (fun z => absurd rfl z) (fun _ => k0 m hfr (fts_mono (fun r hr => ?_) a1)))
        have := sfx_le (ρ := ρ) (κ := κ) (r := r) (i + 1) (n - (i + 1))
        rw [show i + 1 + (n - (i + 1)) = n by omega, sfx_all b5 hC] at this
        omega
  exact bBag_addAll_0 hX ht hu (lp n 0 mem (by omega) (fun j q _ => rfl) (by show bgR mem t w (fun r => ct r + 0); exact hb))
theorem cBag_countOf {r p nr : Nat} {ct : qRw → Nat} (hX : X.length = 13) (ht : kBag t) (hr : sh r = some (64, List.replicate nr none)) (hb : bgR mem t w ct) (hw3 : 1 ≤ w ∧ w ≤ 3) (hp : p + w ≤ nr) (hnr : nr ≤ 192)
    (k : P (.inl (some (.int (qi (ct (rw3 mem r p w))))), hpo X mem sw o e)) : QW (d + 1 + 1) mBag_countOf 0 (qen 4 [.ref t, .ref r, .int (qi p)]) [] (hpo X mem sw o e) P := by
  obtain ⟨n, ρ, κ, hf, hi1, hi2⟩ := hb
  have hf' := hf
  obtain ⟨b1, b2, b3, b4, b5⟩ := hf'
  refine bBag_countOf_0 hX ht hr (cBag_first hX ht hr hf hw3 hp hnr (fun b hbn hlo hhi => qcl_i ?_))
  generalize hx : rw3 mem r p w = x at *
  have hsz : (mem t 1 ≤ qi b) ↔ n ≤ b := by rw [b2]; exact qi_le (by omega) (by omega)
  have zero : (∀ i, i < n → ¬ ρ i = x) → ct x = 0 := fun h => by
    by_cases hz : ct x = 0
    · exact hz
    · obtain ⟨i, hi, hii⟩ := hi2 x hz
      exact absurd hii (h i hi)
  have ne_of : ∀ i, i < n → ¬ (i = b ∧ ρ b = x) → ¬ ρ i = x := fun i hi hz he => by
    rcases Nat.lt_trichotomy i b with h | h | h
    · have := hlo i h
      rw [he] at this
      exact rlt_ir this
    · exact hz ⟨h, h ▸ he⟩
    · have h1 := b5 b i h hi
      rw [he] at h1
      exact hhi b (Nat.le_refl _) (by omega) h1
  refine bBag_countOf_6 hX ht hr (fun z => ?_) (fun z => ?_)
  · rw [zero (fun i hi => ne_of i hi (by have := hsz.mp z; omega))] at k
    exact k
  · have hbn' : b < n := by have := mt hsz.mpr z; omega
    have hbb := b4 b hbn'
    refine cBag_compare (w := w) hX ht hr b1 hw3 (by omega) hp hnr (fun y => ?_) (fun y => ?_) (fun y => ?_)
    · rw [hbb.1, hx] at y
      refine qcl_i (bBag_countOf_22 hX ht hr (fun z => absurd rfl z) (fun _ => qi_inx (by omega) (by omega)) (fun _ => ?_))
      rw [qi_N (by omega), hbb.2.1, ← hi1 b hbn', y]
      exact k
    · rw [hbb.1, hx] at y
      rw [zero (fun i hi => ne_of i hi (fun z => by rw [z.2] at y; exact rlt_ir y))] at k
      exact qcl_i (bBag_countOf_22 hX ht hr (fun _ => k) (fun z => absurd z (by decide)) (fun z => absurd z (by decide)))
    · rw [hbb.1, hx] at y
      rw [zero (fun i hi => ne_of i hi (fun z => by rw [z.2] at y; exact rlt_ir y))] at k
      exact qcl_i (bBag_countOf_22 hX ht hr (fun _ => k) (fun z => absurd z (by decide)) (fun z => absurd z (by decide)))
/-- what a sign between two bags makes of how often a row is there -/
def sgf (s : Int32) (a b : Nat) : Nat := if s = 43 then a + b else if s = 45 then a - b else min a b
theorem cBag_join {u : Nat} {s : Int32} {ct cu : qRw → Nat} (hX : X.length = 13) (ht : kBag t) (hu : kBag u) (htu : u + 2 < t ∨ t + 2 < u) (hw3 : 1 ≤ w ∧ w ≤ 3) (hb : bgR mem t w ct) (hc : bgR mem u w cu) (hbd : ∀ r, ct r < 1073741824 ∧ cu r < 1073741824)
    (k1 : ∀ m', (∀ j q, ¬ (t ≤ j ∧ j < t + 3) → m' j q = mem j q) → bgR m' t w (fun r => sgf s (ct r) (cu r)) → P (.inl (some (.int 1)), hpo X m' sw o e))
    (k0 : ∀ m', (∀ j q, ¬ (t ≤ j ∧ j < t + 3) → m' j q = mem j q) → ¬ fts (fun r => sgf s (ct r) (cu r)) → P (.inl (some (.int 0)), hpo X m' sw o e)) :
    QW (d + 1 + 1 + 1 + 1) mBag_join 0 (qen 7 [.ref t, .int s, .ref u]) [] (hpo X mem sw o e) P := by
  refine bBag_join_0 hX ht hu (fun hs => ?_) (fun hs => ?_)
  · obtain ⟨n, ρ, κ, ⟨b1, b2, b3, b4, b5⟩, hi1, hi2⟩ := hb
    have hg : ∀ a b, sgf s a b = if s = 45 then a - b else min a b := fun a b => if_neg hs
    have lp : ∀ f i kp m w5 w6, qfr w5 → qfr w6 → i + f = n → kp ≤ i → (∀ j q, ¬ (t ≤ j ∧ j < t + 3) → m j q = mem j q) → m t 0 = qi w → m t 1 = qi n → (∀ x, i ≤ x → x < n → rw3 m (t + 1) (3 * x) w = ρ x ∧ m (t + 2) x = qi (κ x)) →
        (∃ sel : Nat → Nat, (∀ a, a < kp → sel a < i ∧ rw3 m (t + 1) (3 * a) w = ρ (sel a) ∧ m (t + 2) a = qi (sgf s (κ (sel a)) (cu (ρ (sel a)))) ∧ 0 < sgf s (κ (sel a)) (cu (ρ (sel a)))) ∧ (∀ a b, a < b → b < kp → sel a < sel b) ∧ ∀ x, x < i → 0 < sgf s (κ x) (cu (ρ x)) → ∃ a, a < kp ∧ sel a = x) →
        QW (d + 1 + 1 + 1 + 1) mBag_join 17 (lBag_join_17 s (qi kp) (qi i) w5 w6 t u) [] (hpo X m sw o e) P := by
      intro f
      induction f with
      | zero =>
        intro i kp m w5 w6 hw5 hw6 hi hkp hfr m0 m1 hrest hsel
        obtain rfl : i = n := by omega
        obtain ⟨sel, s1, s2, s3⟩ := hsel
        have hle : m t 1 ≤ qi i := by rw [m1]; exact Int32.le_refl _
        refine bBag_join_17 hX ht hu hw5 hw6 (fun _ => k1 _ (fun j q a => by rw [mup_q, if_neg (by omega)]; exact hfr j q a) ⟨kp, fun a => ρ (sel a), fun a => sgf s (κ (sel a)) (cu (ρ (sel a))), ⟨by rw [mup_q, if_neg (by omega)]; exact m0, mup_at _ _ _ _, by omega, fun a ha => ?_, fun a b hab hb' => ?_⟩, fun a ha => ?_, fun r hr => ?_⟩) (fun z => absurd hle z)
        · have := s1 a ha
          exact ⟨by show _ = ρ (sel a); rw [← this.2.1]; exact rw3_c (fun c _ => by rw [mup_ce (by omega)]) hw3.1, by rw [mup_ce (by omega)]; exact this.2.2.1, this.2.2.2⟩
        · exact b5 _ _ (s2 a b hab hb') (s1 b hb').1
        · dsimp only
          rw [hi1 _ (s1 a ha).1]
        · dsimp only at hr
          have hct : ¬ ct r = 0 := fun hz => hr (by rw [hz, hg]; split <;> simp)
          obtain ⟨x, hx, e⟩ := hi2 r hct
          rw [← e, hi1 x hx] at hr
          obtain ⟨a, ha, ea⟩ := s3 x hx (Nat.pos_of_ne_zero hr)
          exact ⟨a, ha, by dsimp only; rw [ea]; exact e⟩
      | succ f ih =>
        intro i kp m w5 w6 hw5 hw6 hi hkp hfr m0 m1 hrest hsel
        have hle : ¬ m t 1 ≤ qi i := by rw [m1, qi_le (by omega) (by omega)]; omega
        have e3 : qi i * 3 = qi (3 * i) := by rw [show (3 : Int32) = qi 3 from rfl, qi_mul, Nat.mul_comm]
        have ek : qi kp * 3 = qi (3 * kp) := by rw [show (3 : Int32) = qi 3 from rfl, qi_mul, Nat.mul_comm]
        have hri := hrest i (Nat.le_refl _) (by omega)
        refine bBag_join_17 hX ht hu hw5 hw6 (fun z => absurd z hle) (fun _ => ?_)
        rw [e3]
        refine cBag_countOf (nr := 192) hX hu (kBag_1 ht) (bgR_mono hc (fun j q a b => hfr j q (by omega))) hw3 (by omega) (by omega) (qcl_i ?_)
        rw [hri.1]
        have hca : κ i < 1073741824 := by rw [← hi1 i (by omega)]; exact (hbd _).1
        have hcb := (hbd (ρ i)).2
        -- go on with the count of row i
        have go : ∀ v : Int32, (v ≤ 0 ↔ sgf s (κ i) (cu (ρ i)) = 0) → (¬ v ≤ 0 → v = qi (sgf s (κ i) (cu (ρ i)))) → QW (d + 1 + 1 + 1 + 1) mBag_join 71 (lBag_join_71 s (qi kp) (qi i) (qi (cu (ρ i))) w6 t u) [.int v] (hpo X m sw o e) P := by
          intro v hv0 hv1
          have n3 : Int32.toNatClampNeg (qi i * 3) = 3 * i := by rw [e3, qi_N (by omega)]
          have n4 : Int32.toNatClampNeg (qi kp * 3) = 3 * kp := by rw [ek, qi_N (by omega)]
          have n5 : Int32.toNatClampNeg (m t 0) = w := by rw [m0, qi_N (by omega)]
          have n6 : Int32.toNatClampNeg (qi kp) = kp := qi_N (by omega)
          refine bBag_join_71 hX ht hu hw6 (fun z => ?_) (fun _ => by rw [e3]; exact qi_p (by omega)) (fun _ => by rw [ek]; exact qi_p (by omega)) (fun _ => by rw [m0]; exact qi_p (by omega)) (fun _ => by rw [n3, n5]; omega) (fun _ => by rw [n4, n5]; omega) (fun _ => qi_inx (by omega) (by omega)) (fun z => ?_)
          · rw [qi_1]
            obtain ⟨sel, s1, s2, s3⟩ := hsel
            refine ih (i + 1) kp m _ _ (Or.inr (Or.inl ⟨_, rfl⟩)) (Or.inr (Or.inl ⟨_, rfl⟩)) (by omega) (by omega) hfr m0 m1 (fun x h1 h2 => hrest x (by omega) h2) ⟨sel, fun a ha => ⟨by have := (s1 a ha).1; omega, (s1 a ha).2⟩, s2, fun x hx hp => ?_⟩
            rcases Nat.lt_or_eq_of_le (Nat.le_of_lt_succ hx) with h' | h'
            · exact s3 x h' hp
            · subst h'
              rw [hv0.mp z] at hp
              omega
          · rw [qi_1, qi_1, n3, n4, n5, n6, hv1 z]
            have hpos : 0 < sgf s (κ i) (cu (ρ i)) := Nat.pos_of_ne_zero (fun y => z (hv0.mpr y))
            have v0 : ∀ j q, ¬ (j = t + 1 ∧ 3 * kp ≤ q ∧ q < 3 * kp + w) → ¬ (j = t + 2 ∧ q = kp) → mup (mcp m (t + 1) (t + 1) (3 * i) (3 * kp) w) (t + 2) kp (qi (sgf s (κ i) (cu (ρ i)))) j q = m j q := fun j q a b => by rw [mup_q, if_neg b, mcp_q, if_neg a]
            have v1 : ∀ c, c < w → mup (mcp m (t + 1) (t + 1) (3 * i) (3 * kp) w) (t + 2) kp (qi (sgf s (κ i) (cu (ρ i)))) (t + 1) (3 * kp + c) = m (t + 1) (3 * i + c) := fun c hc' => by rw [mup_q, if_neg (by omega), mcp_q, if_pos (by omega)]; congr 1; omega
            have v2 : mup (mcp m (t + 1) (t + 1) (3 * i) (3 * kp) w) (t + 2) kp (qi (sgf s (κ i) (cu (ρ i)))) (t + 2) kp = qi (sgf s (κ i) (cu (ρ i))) := mup_at _ _ _ _
            generalize mup (mcp m (t + 1) (t + 1) (3 * i) (3 * kp) w) (t + 2) kp (qi (sgf s (κ i) (cu (ρ i)))) = m' at v0 v1 v2 ⊢
            obtain ⟨sel, s1, s2, s3⟩ := hsel
            refine ih (i + 1) (kp + 1) m' _ _ (Or.inr (Or.inl ⟨_, rfl⟩)) (Or.inr (Or.inl ⟨_, rfl⟩)) (by omega) (by omega) (fun j q a => by rw [v0 j q (by omega) (by omega)]; exact hfr j q a) (by rw [v0 _ _ (by omega) (by omega)]; exact m0) (by rw [v0 _ _ (by omega) (by omega)]; exact m1) (fun x h1 h2 => ?_) ⟨fun a => if a < kp then sel a else i, fun a ha => ?_, fun a b hab hb' => ?_, fun x hx hp => ?_⟩
            · have := hrest x (by omega) h2
              exact ⟨by rw [← this.1]; exact rw3_c (fun c hc' => v0 _ _ (by omega) (by omega)) hw3.1, by rw [v0 _ _ (by omega) (by omega)]; exact this.2⟩
            · dsimp only
              by_cases h1 : a < kp
              · rw [if_pos h1]
                have := s1 a h1
                exact ⟨by omega, by rw [← this.2.1]; exact rw3_c (fun c hc' => v0 _ _ (by omega) (by omega)) hw3.1, by rw [v0 _ _ (by omega) (by omega)]; exact this.2.2.1, this.2.2.2⟩
              · rw [if_neg h1]
                obtain rfl : a = kp := by omega
                exact ⟨by omega, by rw [← hri.1]; exact rw3_c v1 hw3.1, v2, hpos⟩
            · dsimp only
              by_cases h1 : b < kp
              · rw [if_pos h1, if_pos (by omega)]; exact s2 a b hab h1
              · rw [if_neg h1, if_pos (by omega)]; exact (s1 a (by omega)).1
            · rcases Nat.lt_or_eq_of_le (Nat.le_of_lt_succ hx) with h' | h'
              · obtain ⟨a, ha, ea⟩ := s3 x h' hp
                exact ⟨a, by omega, by dsimp only; rw [if_pos ha]; exact ea⟩
              · subst h'
                exact ⟨kp, by omega, by dsimp only; rw [if_neg (by omega)]⟩
        have nI : Int32.toNatClampNeg (qi i) = i := qi_N (by omega)
        refine bBag_join_38 hX ht hu hw5 hw6 (fun _ => qi_inx (by omega) (by omega)) (fun h45 => ?_) (fun _ => qi_inx (by omega) (by omega)) (fun h45 => ?_)
        · rw [nI, hri.2]
          have hs2 : sgf s (κ i) (cu (ρ i)) = min (κ i) (cu (ρ i)) := by rw [hg, if_neg h45]
          have hv : (if qi (cu (ρ i)) < qi (κ i) then qi (cu (ρ i)) else qi (κ i)) = qi (min (κ i) (cu (ρ i))) := by
            by_cases hlt : cu (ρ i) < κ i
            · rw [if_pos ((qi_lt (by omega) (by omega)).mpr hlt), Nat.min_eq_right (by omega)]
            · rw [if_neg (fun z => hlt ((qi_lt (by omega) (by omega)).mp z)), Nat.min_eq_left (by omega)]
          rw [hv]
          refine go _ ?_ (fun _ => by rw [hs2])
          rw [hs2]
          constructor
          · intro z
            have := (qi_le (b := 0) (by omega) (by omega)).mp z
            omega
          · intro z
            rw [z]; decide
        · rw [nI, hri.2]
          have hs2 : sgf s (κ i) (cu (ρ i)) = κ i - cu (ρ i) := by rw [hg, if_pos h45]
          refine go _ ?_ (fun z => ?_)
          · rw [hs2, qi_s0 hca hcb]; omega
          · rw [hs2]
            have : ¬ κ i ≤ cu (ρ i) := fun y => z ((qi_s0 hca hcb).mpr y)
            exact qi_sub (by omega)
    exact lp n 0 0 mem .unset .unset (Or.inl rfl) (Or.inl rfl) (by omega) (by omega) (fun j q _ => rfl) b1 b2 (fun x _ hx => ⟨(b4 x hx).1, (b4 x hx).2.1⟩) ⟨fun _ => 0, fun a ha => absurd ha (by omega), fun a b _ hb' => absurd hb' (by omega), fun x hx => absurd hx (by omega)⟩
  · have hfun : (fun r => sgf s (ct r) (cu r)) = fun r => ct r + cu r := funext fun r => if_pos hs
    rw [hfun] at k1 k0
    exact cBag_addAll hX ht hu htu hw3 hb hc (fun m' a1 a2 => qcl_i (bBag_join_11 hX ht hu (by decide) (k1 m' a1 a2))) (fun m' a1 a2 => qcl_i (bBag_join_11 hX ht hu (by decide) (k0 m' a1 a2)))
end BGJ
