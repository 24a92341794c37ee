/-- exactly one of the first n is x -/
theorem sm_one {ρ : Nat → qRw} {x : qRw} {j : Nat} : ∀ n, j < n → ρ j = x → (∀ i, i < n → ρ i = x → i = j) → smN (fun i => if ρ i = x then 1 else 0) n = 1
  | 0, h, _, _ => absurd h (by omega)
  | n + 1, h, hj, hu => by
    rw [smN]
    by_cases hn : j = n
    · subst hn
      rw [if_pos hj, smN_0 j (fun i hi => if_neg (fun z => by have := hu i (by omega) z; omega))]
    · rw [sm_one n (by omega) hj (fun i hi => hu i (by omega)), if_neg (fun z => by have := hu n (by omega) z; omega)]
/-- how many of the first n are among the first p of another list of the same rows -/
theorem sm_rank {ρ ρc : Nat → qRw} {n nc : Nat} (h1 : ∀ i j, i < n → j < n → ρ i = ρ j → i = j) (h2 : ∀ i j, i < nc → j < nc → ρc i = ρc j → i = j) (h3 : ∀ j, j < nc → ∃ i, i < n ∧ ρ i = ρc j) : ∀ p, p ≤ nc → smN (fun i => @ite _ (∃ j, j < p ∧ ρ i = ρc j) (Classical.propDecidable _) 1 0) n = p
  | 0, _ => smN_0 n (fun i _ => if_neg (fun ⟨j, hj, _⟩ => by omega))
  | p + 1, hp => by
    obtain ⟨i0, hi0, e0⟩ := h3 p (by omega)
    have hone := sm_one (ρ := ρ) (x := ρc p) n hi0 e0 (fun i hi he => h1 i i0 hi hi0 (he.trans e0.symm))
    have ih := sm_rank h1 h2 h3 p (by omega)
    have : ∀ i, i < n → @ite _ (∃ j, j < p + 1 ∧ ρ i = ρc j) (Classical.propDecidable _) 1 0 = (@ite _ (∃ j, j < p ∧ ρ i = ρc j) (Classical.propDecidable _) 1 0) + (if ρ i = ρc p then 1 else 0) := fun i _ => by
      by_cases ha : ∃ j, j < p ∧ ρ i = ρc j
      · obtain ⟨j, hj, ej⟩ := ha
        rw [if_pos ⟨j, by omega, ej⟩, if_pos ⟨j, hj, ej⟩, if_neg (fun z => by have := h2 j p (by omega) (by omega) (ej.symm.trans z); omega)]
      · by_cases hb : ρ i = ρc p
        · rw [if_pos ⟨p, by omega, hb⟩, if_neg ha, if_pos hb]
        · rw [if_neg (fun ⟨j, hj, ej⟩ => by
            rcases Nat.lt_or_eq_of_le (Nat.le_of_lt_succ hj) with h' | h'
            · exact ha ⟨j, h', ej⟩
            · subst h'; exact hb ej), if_neg ha, if_neg hb]
    rw [smN_c n this, smN_a, ih, hone]
section MST
variable {d : Nat} {P : qE → Prop} {X : qH} {sw : Bool} {o : Int64} {e : List Nat} {mem : Nat → Nat → Int32}
theorem cMo_isBefore {i k : Nat} {x y : qRw} (hX : X.length = 13) (hi : i < 64) (hk : k < 64) (hx : at3 mem 213 i x) (hy : at3 mem 213 k y) (k1 : rlt x y → P (.inl (some (.int 1)), hpo X mem sw o e)) (k0 : ¬ rlt x y → P (.inl (some (.int 0)), hpo X mem sw o e)) : QW d mMo_isBefore 0 (qen 4 [.ref 193, .int (qi i), .int (qi k)]) [] (hpo X mem sw o e) P := by
  have ei : ∀ c, (3 : Int32) * qi i + qi c = qi (3 * i + c) := fun c => by rw [q3, qi_add]
  have ek : ∀ c, (3 : Int32) * qi k + qi c = qi (3 * k + c) := fun c => by rw [q3, qi_add]
  have lp : ∀ f c, c + f = 3 → (∀ z, z < c → mem 213 (3 * i + z) = mem 213 (3 * k + z)) → QW d mMo_isBefore 2 (lMo_isBefore_2 (qi i) (qi k) (qi c)) [] (hpo X mem sw o e) P := by
    intro f
    induction f with
    | zero =>
      intro c hc heq
      obtain rfl : c = 3 := by omega
      refine bMo_isBefore_2 hX (fun _ => k0 (fun z => ?_)) (fun z => absurd (by decide) z) (fun z => absurd (by decide) z) (fun z => absurd (by decide) z) (fun z => absurd (by decide) z) (fun z => absurd (by decide) z) (fun z => absurd (by decide) z) (fun z => absurd (by decide) z)
      have : x = y := (at3_eq hx hy).mpr ⟨heq 0 (by omega), heq 1 (by omega), heq 2 (by omega)⟩
      rw [this] at z
      exact rlt_ir z
    | succ f ih =>
      intro c hc heq
      have hle3 : ¬ (3 : Int32) ≤ qi c := fun z => by have := (qi_le (a := 3) (by omega) (by omega)).mp z; omega
      have i1 : inx (3 * qi i + qi c) 192 := by rw [ei]; exact qi_inx (by omega) (by omega)
      have i2 : inx (3 * qi k + qi c) 192 := by rw [ek]; exact qi_inx (by omega) (by omega)
      have n1 : Int32.toNatClampNeg (3 * qi i + qi c) = 3 * i + c := by rw [ei, qi_N (by omega)]
      have n2 : Int32.toNatClampNeg (3 * qi k + qi c) = 3 * k + c := by rw [ek, qi_N (by omega)]
      have up : mem 213 (3 * i + c) < mem 213 (3 * k + c) → rlt x y := by
        intro h
        rcases (show c = 0 ∨ c = 1 ∨ c = 2 by omega) with rfl | rfl | rfl
        · exact Or.inl (by rw [← hx.1, ← hy.1]; exact h)
        · exact Or.inr ⟨by rw [← hx.1, ← hy.1]; exact heq 0 (by omega), Or.inl (by rw [← hx.2.1, ← hy.2.1]; exact h)⟩
        · exact Or.inr ⟨by rw [← hx.1, ← hy.1]; exact heq 0 (by omega), Or.inr ⟨by rw [← hx.2.1, ← hy.2.1]; exact heq 1 (by omega), by rw [← hx.2.2, ← hy.2.2]; exact h⟩⟩
      have dn : mem 213 (3 * k + c) < mem 213 (3 * i + c) → rlt y x := by
        intro h
        rcases (show c = 0 ∨ c = 1 ∨ c = 2 by omega) with rfl | rfl | rfl
        · exact Or.inl (by rw [← hx.1, ← hy.1]; exact h)
        · exact Or.inr ⟨by rw [← hx.1, ← hy.1]; exact (heq 0 (by omega)).symm, Or.inl (by rw [← hx.2.1, ← hy.2.1]; exact h)⟩
        · exact Or.inr ⟨by rw [← hx.1, ← hy.1]; exact (heq 0 (by omega)).symm, Or.inr ⟨by rw [← hx.2.1, ← hy.2.1]; exact (heq 1 (by omega)).symm, by rw [← hx.2.2, ← hy.2.2]; exact h⟩⟩
      refine bMo_isBefore_2 hX (fun z => absurd z hle3) (fun _ => i1) (fun _ => i2) (fun _ z => ?_) (fun _ _ => i1) (fun _ _ => i2) (fun _ z z' => ?_) (fun _ z z' => ?_)
      · rw [n1, n2] at z
        rw [qi_1]
        refine ih (c + 1) (by omega) (fun w hw => ?_)
        rcases Nat.lt_or_eq_of_le (Nat.le_of_lt_succ hw) with h' | h'
        · exact heq w h'
        · rw [h']; exact z
      · rw [n1, n2] at z z'
        exact k0 (fun w => rlt_ir (rlt_tr w (dn (i_lt z z'))))
      · rw [n1, n2] at z z'
        exact k1 (up (i_le z'))
  exact bMo_isBefore_0 hX (lp 3 0 (by omega) (fun z hz => absurd hz (by omega)))
/-- the reference puts the rows in their order: the order of the sorted rows ρc -/
theorem cMo_settle {q n nc : Nat} {ρ ρc : Nat → qRw} {κ κc : Nat → Nat} {ct : qRw → Nat} (hX : X.length = 13) (hq : q < 5) (hn : mem 193 29 = qi n) (hl : lsF mem 213 214 n ρ κ) (hc : isC n ρ κ ct) (hs : ∀ i j, i < j → j < nc → rlt (ρc i) (ρc j)) (hp : ∀ i, i < nc → 0 < κc i) (hcc : isC nc ρc κc ct)
    (k : ∀ m', (∀ j x, ¬ (j = 193 ∧ 33 ≤ x ∧ x < 35) → ¬ (215 ≤ j ∧ j < 217) → m' j x = mem j x) → m' 193 33 = qi nc → m' 193 34 = mem 202 (3 * q) → (∀ p, p < nc → at3 m' 215 p (ρc p) ∧ m' 216 p = qi (κc p)) → P (.inl none, hpo X m' sw o e)) : QW (d + 1) mMo_settle 0 (qen 5 [.ref 193, .int (qi q)]) [] (hpo X mem sw o e) P := by
  have inj : ∀ i j, i < nc → j < nc → ρc i = ρc j → i = j := fun i j hi hj he => by
    rcases Nat.lt_trichotomy i j with h | h | h
    · have := hs i j h hj
      rw [he] at this; exact absurd this rlt_ir
    · exact h
    · have := hs j i h hi
      rw [he] at this; exact absurd this rlt_ir
  have to : ∀ j, j < nc → ∃ i, i < n ∧ ρ i = ρc j := fun j hj => hc.2 _ (by have h1 := hcc.1 j hj; have h2 := hp j hj; omega)
  have fro : ∀ i, i < n → ∃ j, j < nc ∧ ρc j = ρ i := fun i hi => hcc.2 _ (by have h1 := hc.1 i hi; have h2 := (hl.2.1 i hi).2.2; omega)
  have rank := sm_rank (ρ := ρ) (ρc := ρc) hl.2.2 inj to
  have hnn : n = nc := by
    have h1 := rank nc (Nat.le_refl _)
    have h2 : smN (fun i => @ite _ (∃ j, j < nc ∧ ρ i = ρc j) (Classical.propDecidable _) 1 0) n = smN (fun _ => 1) n := smN_c n (fun i hi => if_pos (by obtain ⟨j, hj, ej⟩ := fro i hi; exact ⟨j, hj, ej.symm⟩))
    rw [h2, smN_k, Nat.mul_one] at h1
    exact h1
  subst hnn
  have h64 := hl.1
  have before : ∀ p, p < n → ∀ i, i < n → (rlt (ρ i) (ρc p) ↔ ∃ j, j < p ∧ ρ i = ρc j) := fun p hp' i hi => by
    obtain ⟨j, hj, ej⟩ := fro i hi
    constructor
    · intro h
      refine ⟨j, ?_, ej.symm⟩
      rw [← ej] at h
      rcases Nat.lt_trichotomy j p with h' | h' | h'
      · exact h'
      · subst h'; exact absurd h rlt_ir
      · exact absurd (rlt_tr h (hs p j h' hj)) rlt_ir
    · rintro ⟨j', hj', ej'⟩
      rw [ej']; exact hs j' p hj' hp'
  have lp : ∀ f kk m w3 w4, qfr w3 → qfr w4 → kk + f = n → (∀ j x, ¬ (215 ≤ j ∧ j < 217) → m j x = mem j x) → (∀ i, i < kk → ∀ p, p < n → ρc p = ρ i → at3 m 215 p (ρc p) ∧ m 216 p = qi (κc p)) → QW (d + 1) mMo_settle 2 (lMo_settle_2 (qi q) (qi kk) w3 w4) [] (hpo X m sw o e) P := by
    intro f
    induction f with
    | zero =>
      intro kk m w3 w4 hw3 hw4 hk hfr hdone
      obtain rfl : kk = n := by omega
      have e29 : m 193 29 = qi kk := by rw [hfr _ _ (by omega)]; exact hn
      have hle : m 193 29 ≤ qi kk := by rw [e29]; exact Int32.le_refl _
      refine bMo_settle_2 hX hw3 hw4 (fun _ => by rw [q3]; exact qi_inx (by omega) (by omega)) (fun _ => ?_) (fun z => absurd hle z)
      rw [e29, q3, qi_N (by omega)]
      refine k _ (fun j x z1 z2 => by rw [mup_q, if_neg (by omega), mup_q, if_neg (by omega)]; exact hfr j x z2) (by rw [mup_q, if_neg (by omega), mup_at]) (by rw [mup_at, mup_ce (by omega), hfr _ _ (by omega)]) (fun p hp' => ?_)
      obtain ⟨i, hi, ei⟩ := to p hp'
      have := hdone i hi p hp' ei.symm
      unfold at3 at this ⊢
      rw [mup_ce (by omega), mup_ce (by omega), mup_ce (by omega), mup_ce (by omega)]
      exact this
    | succ f ih =>
      intro kk m w3 w4 hw3 hw4 hk hfr hdone
      have e29 : m 193 29 = qi n := by rw [hfr _ _ (by omega)]; exact hn
      have hle : ¬ m 193 29 ≤ qi kk := by rw [e29, qi_le (by omega) (by omega)]; omega
      have a3m : ∀ i, i < n → at3 m 213 i (ρ i) := fun i hi => by
        have := (hl.2.1 i hi).1
        unfold at3
        rw [hfr _ _ (by omega), hfr _ _ (by omega), hfr _ _ (by omega)]; exact this
      obtain ⟨p, hp1, hp2⟩ := fro kk (by omega)
      refine bMo_settle_2 hX hw3 hw4 (fun z => absurd z hle) (fun z => absurd z hle) (fun _ => ?_)
      -- how many come before
      have cntl : ∀ f i, i + f = n → QW (d + 1) mMo_settle 15 (lMo_settle_15 (qi q) (qi kk) (qi (smN (fun i => @ite _ (∃ j, j < p ∧ ρ i = ρc j) (Classical.propDecidable _) 1 0) i)) (qi i)) [] (hpo X m sw o e) P := by
        intro f'
        induction f' with
        | zero =>
          intro i hi
          obtain rfl : i = n := by omega
          have hle2 : m 193 29 ≤ qi i := by rw [e29]; exact Int32.le_refl _
          rw [rank p (by omega)]
          refine bMo_settle_15 hX (fun _ => ?_) (fun z => absurd hle2 z)
          have cp : ∀ f c m1, c + f = 3 → (∀ j x, ¬ (j = 215 ∧ 3 * p ≤ x ∧ x < 3 * p + c) → m1 j x = m j x) → (∀ y, y < c → m1 215 (3 * p + y) = m 213 (3 * kk + y)) → QW (d + 1) mMo_settle 51 (lMo_settle_51 (qi q) (qi kk) (qi p) (qi c)) [] (hpo X m1 sw o e) P := by
            intro f''
            induction f'' with
            | zero =>
              intro c m1 hc' hfr1 hcp
              obtain rfl : c = 3 := by omega
              refine bMo_settle_51 hX (fun _ => qi_inx (by omega) (by omega)) (fun _ => qi_inx (by omega) (by omega)) (fun _ => ?_) (fun z => absurd (by decide) z) (fun z => absurd (by decide) z) (fun z => absurd (by decide) z)
              rw [qi_1, qi_N (a := p) (by omega), qi_N (a := kk) (by omega)]
              have e214 : m1 214 kk = qi (κ kk) := by rw [hfr1 _ _ (by omega), hfr _ _ (by omega)]; exact (hl.2.1 kk (by omega)).2.1
              rw [e214]
              refine ih (kk + 1) _ _ _ (Or.inr (Or.inl ⟨_, rfl⟩)) (Or.inr (Or.inl ⟨_, rfl⟩)) (by omega) (fun j x z => by rw [mup_q, if_neg (by omega), hfr1 _ _ (by omega)]; exact hfr j x z) (fun i' hi' p' hp' hpe => ?_)
              by_cases hpp : p' = p
              · subst hpp
                refine ⟨?_, ?_⟩
                · have h3 := a3m kk (by omega)
                  unfold at3
                  rw [mup_ce (by omega), hp2]
                  exact ⟨(hcp 0 (by omega)).trans h3.1, (hcp 1 (by omega)).trans h3.2.1, (hcp 2 (by omega)).trans h3.2.2⟩
                · rw [mup_at, ← hc.1 kk (by omega), ← hp2, hcc.1 p' hp']
              · have hne : ¬ i' = kk := fun z => by subst z; exact hpp (inj p' p hp' hp1 (hpe.trans hp2.symm))
                have := hdone i' (by omega) p' hp' hpe
                unfold at3 at this ⊢
                rw [mup_ce (by omega), mup_q, if_neg (by omega), hfr1 _ _ (by omega), hfr1 _ _ (by omega), hfr1 _ _ (by omega), hfr1 _ _ (by omega)]
                exact this
            | succ f'' ih'' =>
              intro c m1 hc' hfr1 hcp
              have hle3 : ¬ (3 : Int32) ≤ qi c := fun w => by have := (qi_le (a := 3) (by omega) (by omega)).mp w; omega
              have eI : (3 : Int32) * qi p + qi c = qi (3 * p + c) := by rw [q3, qi_add]
              have eJ : (3 : Int32) * qi kk + qi c = qi (3 * kk + c) := by rw [q3, qi_add]
              refine bMo_settle_51 hX (fun w => absurd w hle3) (fun w => absurd w hle3) (fun w => absurd w hle3) (fun _ => by rw [eJ]; exact qi_inx (by omega) (by omega)) (fun _ => by rw [eI]; exact qi_inx (by omega) (by omega)) (fun _ => ?_)
              rw [eI, eJ, qi_1, qi_N (a := 3 * p + c) (by omega), qi_N (a := 3 * kk + c) (by omega)]
              refine ih'' (c + 1) _ (by omega) (fun j x w => by rw [mup_q, if_neg (by omega)]; exact hfr1 j x (by omega)) (fun y hy => ?_)
              rw [mup_q]
              rcases Nat.lt_or_eq_of_le (Nat.le_of_lt_succ hy) with h' | h'
              · rw [if_neg (by omega)]; exact hcp y h'
              · rw [if_pos (by omega), h']; exact hfr1 _ _ (by omega)
          exact cp 3 0 m (by omega) (fun j x _ => rfl) (fun y hy => absurd hy (by omega))
        | succ f' ih' =>
          intro i hi
          have hle2 : ¬ m 193 29 ≤ qi i := by rw [e29, qi_le (by omega) (by omega)]; omega
          have hb := before p hp1 i (by omega)
          rw [hp2] at hb
          refine bMo_settle_15 hX (fun z => absurd z hle2) (fun _ => cMo_isBefore hX (by omega) (by omega) (a3m i (by omega)) (a3m kk (by omega)) (fun z => ?_) (fun z => ?_))
          · refine qcl_i (bMo_settle_32 hX (fun w => absurd w (by decide)) (fun _ => bMo_settle_40 hX ?_))
            rw [qi_1, qi_1]
            have := ih' (i + 1) (by omega)
            rw [smN, if_pos (hb.mp z)] at this
            exact this
          · refine qcl_i (bMo_settle_32 hX (fun _ => bMo_settle_40 hX ?_) (fun w => absurd rfl w))
            rw [qi_1]
            have := ih' (i + 1) (by omega)
            rw [smN, if_neg (fun w => z (hb.mpr w))] at this
            rw [show ∀ v : Nat, qi v + 0 = qi v from fun v => qi_add v 0]
            exact this
      exact cntl n 0 (by omega)
  exact bMo_settle_0 hX (lp n 0 mem .unset .unset (Or.inl rfl) (Or.inl rfl) (by omega) (fun j x _ => rfl) (fun i hi => absurd hi (by omega)))
end MST
