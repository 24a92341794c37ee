/-- a row in the cells a at i -/
def at3 (m : Nat → Nat → Int32) (a i : Nat) (x : qRw) : Prop := m a (3 * i) = x.1 ∧ m a (3 * i + 1) = x.2.1 ∧ m a (3 * i + 2) = x.2.2
theorem at3_eq {m : Nat → Nat → Int32} {a b i j : Nat} {x y : qRw} (h : at3 m a i x) (h' : at3 m b j y) : x = y ↔ (m a (3 * i) = m b (3 * j) ∧ m a (3 * i + 1) = m b (3 * j + 1) ∧ m a (3 * i + 2) = m b (3 * j + 2)) := by
  rw [h.1, h.2.1, h.2.2, h'.1, h'.2.1, h'.2.2]
  constructor
  · intro z; rw [z]; exact ⟨rfl, rfl, rfl⟩
  · rintro ⟨z1, z2, z3⟩
    exact Prod.ext z1 (Prod.ext z2 z3)
theorem lsF_mono {m m' : Nat → Nat → Int32} {a c n : Nat} {ρ : Nat → qRw} {κ : Nat → Nat} (h : lsF m a c n ρ κ) (e1 : ∀ q, m' a q = m a q) (e2 : ∀ q, m' c q = m c q) : lsF m' a c n ρ κ := by
  refine ⟨h.1, fun i hi => ?_, h.2.2⟩
  rw [e1, e1, e1, e2]; exact h.2.1 i hi
theorem sfx_allN {n : Nat} {ρ : Nat → qRw} {κ : Nat → Nat} {ct : qRw → Nat} (hd : ∀ i j, i < n → j < n → ρ i = ρ j → i = j) (h : isC n ρ κ ct) (r : qRw) : sfx ρ κ r n = ct r := by
  by_cases hex : ∃ i, i < n ∧ ρ i = r
  · obtain ⟨i, hi, e⟩ := hex
    rw [sfx_one n hi e (fun j hj hne hz => hne (hd j i hj hi (hz.trans e.symm))), ← h.1 i hi, e]
  · rw [sfx_no n (fun i hi hz => hex ⟨i, hi, hz⟩)]
    by_cases hr : ct r = 0
    · exact hr.symm
    · obtain ⟨i, hi, e⟩ := h.2 r hr
      exact absurd ⟨i, hi, e⟩ hex
section MMG
variable {d : Nat} {P : qE → Prop} {X : qH} {sw : Bool} {o : Int64} {e : List Nat} {mem : Nat → Nat → Int32}
theorem x3 (i : Nat) : (3 : Int32) * qi i + 1 = qi (3 * i + 1) ∧ (3 : Int32) * qi i + 2 = qi (3 * i + 2) := ⟨by rw [q3, qi_1], by rw [q3]; exact qi_add _ 2⟩
theorem cMo_inBlock {k n : Nat} {x : qRw} {cu : qRw → Nat} (hX : X.length = 13) (hk : k < 64) (hx : at3 mem 213 k x) (hn : mem 193 26 = qi n) (hl : lsR mem 211 212 n cu) (kk : P (.inl (some (.int (qi (cu x)))), hpo X mem sw o e)) : QW d mMo_inBlock 0 (qen 4 [.ref 193, .int (qi k)]) [] (hpo X mem sw o e) P := by
  obtain ⟨ρ, κ, ⟨g1, g2, g3⟩, hC⟩ := hl
  have lp : ∀ f i, i + f = n → QW d mMo_inBlock 4 (lMo_inBlock_4 (qi k) (qi (sfx ρ κ x i)) (qi i)) [] (hpo X mem sw o e) P := by
    intro f
    induction f with
    | zero =>
      intro i hi
      obtain rfl : i = n := by omega
      have hle : mem 193 26 ≤ qi i := by rw [hn]; exact Int32.le_refl _
      rw [sfx_allN g3 hC]
      exact bMo_inBlock_4 hX (fun _ => kk) (fun z => absurd hle z) (fun z => absurd hle z) (fun z => absurd hle z) (fun z => absurd hle z) (fun z => absurd hle z) (fun z => absurd hle z) (fun z => absurd hle z) (fun z => absurd hle z) (fun z => absurd hle z) (fun z => absurd hle z) (fun z => absurd hle z)
    | succ f ih =>
      intro i hi
      have hle : ¬ mem 193 26 ≤ qi i := by rw [hn, qi_le (by omega) (by omega)]; omega
      have hgi := g2 i (by omega)
      have heq := at3_eq (m := mem) hx (show at3 mem 211 i (ρ i) from hgi.1)
      have no : ¬ ρ i = x → QW d mMo_inBlock 86 (lMo_inBlock_86 (qi k) (qi (sfx ρ κ x i)) (qi i)) [] (hpo X mem sw o e) P := fun hne => by
        refine bMo_inBlock_86 hX (bMo_inBlock_87 hX ?_)
        rw [qi_1]
        have := ih (i + 1) (by omega)
        rw [sfx, if_neg hne, Nat.add_zero] at this
        exact this
      have k0 : inx (3 * qi k) 192 := by rw [q3]; exact qi_inx (by omega) (by omega)
      have k1 : inx (3 * qi k + 1) 192 := by rw [(x3 k).1]; exact qi_inx (by omega) (by omega)
      have k2 : inx (3 * qi k + 2) 192 := by rw [(x3 k).2]; exact qi_inx (by omega) (by omega)
      have i0 : inx (3 * qi i) 192 := by rw [q3]; exact qi_inx (by omega) (by omega)
      have i1 : inx (3 * qi i + 1) 192 := by rw [(x3 i).1]; exact qi_inx (by omega) (by omega)
      have i2 : inx (3 * qi i + 2) 192 := by rw [(x3 i).2]; exact qi_inx (by omega) (by omega)
      have nk0 : Int32.toNatClampNeg (3 * qi k) = 3 * k := by rw [q3, qi_N (by omega)]
      have nk1 : Int32.toNatClampNeg (3 * qi k + 1) = 3 * k + 1 := by rw [(x3 k).1, qi_N (by omega)]
      have nk2 : Int32.toNatClampNeg (3 * qi k + 2) = 3 * k + 2 := by rw [(x3 k).2, qi_N (by omega)]
      have ni0 : Int32.toNatClampNeg (3 * qi i) = 3 * i := by rw [q3, qi_N (by omega)]
      have ni1 : Int32.toNatClampNeg (3 * qi i + 1) = 3 * i + 1 := by rw [(x3 i).1, qi_N (by omega)]
      have ni2 : Int32.toNatClampNeg (3 * qi i + 2) = 3 * i + 2 := by rw [(x3 i).2, qi_N (by omega)]
      refine bMo_inBlock_4 hX (fun z => absurd z hle) (fun _ => k0) (fun _ => i0) (fun _ z => ?_) (fun _ _ => k1) (fun _ _ => i1) (fun _ _ z => ?_) (fun _ _ _ => k2) (fun _ _ _ => i2) (fun _ _ _ z => ?_) (fun _ _ _ _ => qi_inx (by omega) (by omega)) (fun _ y0 y1 y2 => ?_)
      · rw [nk0, ni0] at z
        exact no (fun w => z (heq.mp w.symm).1)
      · rw [nk1, ni1] at z
        exact no (fun w => z (heq.mp w.symm).2.1)
      · rw [nk2, ni2] at z
        exact no (fun w => z (heq.mp w.symm).2.2)
      · rw [nk0, ni0] at y0
        rw [nk1, ni1] at y1
        rw [nk2, ni2] at y2
        have he : ρ i = x := (heq.mpr ⟨y0, y1, y2⟩).symm
        rw [qi_N (a := i) (by omega), hgi.2.1]
        refine bMo_inBlock_87 hX ?_
        rw [qi_1]
        have := ih (i + 1) (by omega)
        rw [sfx, if_pos he, sfx_no i (fun j hj hz => by have := g3 j i (by omega) (by omega) (hz.trans he.symm); omega), Nat.zero_add] at this
        exact this
  exact bMo_inBlock_0 hX (lp n 0 (by omega))
/-- the reference appends the rows that aren't there yet -/
theorem cMo_addNew {h n : Nat} {c1 cu : qRw → Nat} (hX : X.length = 13) (hh : mem 193 29 = qi h) (hl : lsR mem 213 214 h c1) (hn : mem 193 26 = qi n) (hu : lsR mem 211 212 n cu)
    (k1 : ∀ m' n', (∀ j q, ¬ (j = 193 ∧ q = 29) → ¬ (213 ≤ j ∧ j < 215) → m' j q = mem j q) → m' 193 29 = qi n' → lsR m' 213 214 n' (fun r => if c1 r = 0 then cu r else c1 r) → P (.inl (some (.int 1)), hpo X m' sw o e))
    (k0 : ∀ m', (∀ j q, ¬ (j = 193 ∧ q = 29) → ¬ (213 ≤ j ∧ j < 215) → m' j q = mem j q) → ¬ fts (fun r => if c1 r = 0 then cu r else c1 r) → P (.inl (some (.int 0)), hpo X m' sw o e)) : QW d mMo_addNew 0 (qen 5 [.ref 193]) [] (hpo X mem sw o e) P := by
  obtain ⟨ρ1, κ1, ⟨f1, f2, f3⟩, i1, i2⟩ := hl
  obtain ⟨ρ, κ, ⟨g1, g2, g3⟩, hC⟩ := hu
  have c1z : ∀ r, c1 r = 0 ↔ ∀ k, k < h → ¬ ρ1 k = r := fun r => by
    constructor
    · intro hz k hk he
      have := i1 k hk
      rw [he, hz] at this
      have := (f2 k hk).2.2
      omega
    · intro hz
      by_cases h0 : c1 r = 0
      · exact h0
      · obtain ⟨k, hk, e'⟩ := i2 r h0
        exact absurd e' (hz k hk)
  have lp : ∀ f i m sf ρs κs w3 w4, qfr w3 → qfr w4 → i + f = n → (∀ j q, ¬ (j = 193 ∧ q = 29) → ¬ (213 ≤ j ∧ j < 215) → m j q = mem j q) → m 193 29 = qi sf → h ≤ sf → lsF m 213 214 sf ρs κs → (∀ k, k < h → ρs k = ρ1 k) → isC sf ρs κs (fun r => if c1 r = 0 then sfx ρ κ r i else c1 r) → QW d mMo_addNew 7 (lMo_addNew_7 (qi h) (qi i) w3 w4) [] (hpo X m sw o e) P := by
    intro f
    induction f with
    | zero =>
      intro i m sf ρs κs w3 w4 hw3 hw4 hi hfr hsf hh' hls hρ hc
      obtain rfl : i = n := by omega
      have hle : m 193 26 ≤ qi i := by rw [hfr _ _ (by omega) (by omega), hn]; exact Int32.le_refl _
      refine bMo_addNew_7 hX hw3 hw4 (fun _ => k1 m sf hfr hsf ⟨ρs, κs, hls, ?_⟩) (fun z => absurd hle z)
      have : (fun r => if c1 r = 0 then sfx ρ κ r i else c1 r) = fun r => if c1 r = 0 then cu r else c1 r := funext fun r => by rw [sfx_allN g3 hC]
      rw [← this]; exact hc
    | succ f ih =>
      intro i m sf ρs κs w3 w4 hw3 hw4 hi hfr hsf hh' hls hρ hc
      have hle : ¬ m 193 26 ≤ qi i := by rw [hfr _ _ (by omega) (by omega), hn, qi_le (by omega) (by omega)]; omega
      have hgi := g2 i (by omega)
      have hx : at3 m 211 i (ρ i) := by
        unfold at3
        rw [hfr _ _ (by omega) (by omega), hfr _ _ (by omega) (by omega), hfr _ _ (by omega) (by omega)]; exact hgi.1
      have ni0 : Int32.toNatClampNeg (3 * qi i) = 3 * i := by rw [q3, qi_N (by omega)]
      have ni1 : Int32.toNatClampNeg (3 * qi i + 1) = 3 * i + 1 := by rw [(x3 i).1, qi_N (by omega)]
      have ni2 : Int32.toNatClampNeg (3 * qi i + 2) = 3 * i + 2 := by rw [(x3 i).2, qi_N (by omega)]
      have i0 : inx (3 * qi i) 192 := by rw [q3]; exact qi_inx (by omega) (by omega)
      have i1' : inx (3 * qi i + 1) 192 := by rw [(x3 i).1]; exact qi_inx (by omega) (by omega)
      have i2' : inx (3 * qi i + 2) 192 := by rw [(x3 i).2]; exact qi_inx (by omega) (by omega)
      have hsfx : ∀ r, sfx ρ κ r (i + 1) = sfx ρ κ r i + (if ρ i = r then κ i else 0) := fun r => rfl
      have hsfx0 : sfx ρ κ (ρ i) i = 0 := sfx_no i (fun j hj hz => by have := g3 j i (by omega) (by omega) hz; omega)
      refine bMo_addNew_7 hX hw3 hw4 (fun z => absurd z hle) (fun _ => ?_)
      -- whether the row is there already
      have look : ∀ f k (a3 : Int32), k + f = h → b01 a3 → (a3 = 0 ↔ ∀ y, y < k → ¬ ρ1 y = ρ i) → QW d mMo_addNew 20 (lMo_addNew_20 (qi h) (qi i) a3 (qi k)) [] (hpo X m sw o e) P := by
        intro f'
        induction f' with
        | zero =>
          intro k a3 hk ha3 hiff
          obtain rfl : k = h := by omega
          have hle2 : qi k ≤ qi k := Int32.le_refl _
          have hz : (a3 = 0) ↔ c1 (ρ i) = 0 := by rw [hiff, c1z]
          have skip : ¬ a3 = 0 → QW d mMo_addNew 125 (lMo_addNew_125 (qi k) (qi i) a3 (qi k)) [] (hpo X m sw o e) P := by
            intro hne
            refine bMo_addNew_125 hX (fun _ => ?_) (fun z => absurd z hne)
            rw [qi_1]
            refine ih (i + 1) m sf ρs κs _ _ (Or.inr (Or.inl ⟨_, rfl⟩)) (Or.inr (Or.inl ⟨_, rfl⟩)) (by omega) hfr hsf hh' hls hρ ?_
            have : (fun r => if c1 r = 0 then sfx ρ κ r (i + 1) else c1 r) = fun r => if c1 r = 0 then sfx ρ κ r i else c1 r := funext fun r => by
              by_cases hr : c1 r = 0
              · rw [if_pos hr, if_pos hr, hsfx, if_neg (fun w => hne (hz.mpr (by rw [w]; exact hr))), Nat.add_zero]
              · rw [if_neg hr, if_neg hr]
            rw [this]; exact hc
          have nw : a3 = 0 → ∀ y, y < sf → ¬ ρs y = ρ i := fun h0 y hy he => by
            have h' := hc.1 y hy
            rw [he] at h'
            dsimp only at h'
            rw [if_pos (hz.mp h0), hsfx0] at h'
            have := (hls.2.1 y hy).2.2
            omega
          refine bMo_addNew_20 hX (fun _ z => skip z) (fun _ z y => ?_) (fun _ z y => ?_) (fun w => absurd hle2 w) (fun w => absurd hle2 w) (fun w => absurd hle2 w) (fun w => absurd hle2 w) (fun w => absurd hle2 w) (fun w => absurd hle2 w) (fun w => absurd hle2 w) (fun w => absurd hle2 w) (fun w => absurd hle2 w) (fun w => absurd hle2 w) (fun w => absurd hle2 w)
          · -- appended
            have hlt : sf < 64 := by
              rcases Nat.lt_or_eq_of_le hls.1 with h' | h'
              · exact h'
              · rw [hsf, h'] at y; exact absurd rfl y
            refine bMo_addNew_125 hX (fun w => absurd z w) (fun _ => ?_)
            have ap : ∀ f c m1, c + f = 3 → (∀ j q, ¬ (j = 213 ∧ 3 * sf ≤ q ∧ q < 3 * sf + c) → m1 j q = m j q) → (∀ y, y < c → m1 213 (3 * sf + y) = m 211 (3 * i + y)) → QW d mMo_addNew 132 (lMo_addNew_132 (qi k) (qi i) a3 (qi c)) [] (hpo X m1 sw o e) P := by
              intro f''
              induction f'' with
              | zero =>
                intro c m1 hc' hfr1 hcp
                obtain rfl : c = 3 := by omega
                have e29 : m1 193 29 = qi sf := by rw [hfr1 _ _ (by omega)]; exact hsf
                refine bMo_addNew_132 hX (fun _ => qi_inx (by omega) (by omega)) (fun _ => by rw [e29]; exact qi_inx hlt (by omega)) (fun _ => ?_) (fun w => absurd (by decide) w) (fun w => absurd (by decide) w) (fun w => absurd (by decide) w)
                rw [e29, qi_N (a := sf) (by omega), qi_N (a := i) (by omega), mup_ce (by omega), e29, qi_1, qi_1]
                have e212 : m1 212 i = qi (κ i) := by rw [hfr1 _ _ (by omega), hfr _ _ (by omega) (by omega)]; exact hgi.2.1
                rw [e212]
                refine ih (i + 1) _ (sf + 1) (fun y => if y = sf then ρ i else ρs y) (fun y => if y = sf then κ i else κs y) _ _ (Or.inr (Or.inl ⟨_, rfl⟩)) (Or.inr (Or.inl ⟨_, rfl⟩)) (by omega) (fun j q w1 w2 => by rw [mup_q, if_neg w1, mup_q, if_neg (by omega), hfr1 _ _ (by omega)]; exact hfr j q w1 w2) (mup_at _ _ _ _) (by omega) ⟨by omega, fun y' hy => ?_, fun y1 y2 hy1 hy2 he => ?_⟩ (fun k' hk' => ?_) ⟨fun y' hy => ?_, fun r hr => ?_⟩
                · dsimp only
                  by_cases hys : y' = sf
                  · subst hys
                    rw [if_pos rfl, if_pos rfl]
                    refine ⟨⟨?_, ?_, ?_⟩, ?_, hgi.2.2⟩
                    · rw [mup_ce (by omega), mup_ce (by omega)]; exact (hcp 0 (by omega)).trans hx.1
                    · rw [mup_ce (by omega), mup_ce (by omega)]; exact (hcp 1 (by omega)).trans hx.2.1
                    · rw [mup_ce (by omega), mup_ce (by omega)]; exact (hcp 2 (by omega)).trans hx.2.2
                    · rw [mup_ce (by omega), mup_at]
                  · rw [if_neg hys, if_neg hys]
                    have := hls.2.1 y' (by omega)
                    refine ⟨⟨?_, ?_, ?_⟩, ?_, this.2.2⟩
                    · rw [mup_ce (by omega), mup_ce (by omega), hfr1 _ _ (by omega)]; exact this.1.1
                    · rw [mup_ce (by omega), mup_ce (by omega), hfr1 _ _ (by omega)]; exact this.1.2.1
                    · rw [mup_ce (by omega), mup_ce (by omega), hfr1 _ _ (by omega)]; exact this.1.2.2
                    · rw [mup_ce (by omega), mup_q, if_neg (by omega), hfr1 _ _ (by omega)]; exact this.2.1
                · dsimp only at he
                  by_cases h1 : y1 = sf
                  · by_cases h2 : y2 = sf
                    · omega
                    · rw [if_pos h1, if_neg h2] at he
                      exact absurd he.symm (nw z y2 (by omega))
                  · by_cases h2 : y2 = sf
                    · rw [if_neg h1, if_pos h2] at he
                      exact absurd he (nw z y1 (by omega))
                    · rw [if_neg h1, if_neg h2] at he
                      exact hls.2.2 y1 y2 (by omega) (by omega) he
                · show (if k' = sf then ρ i else ρs k') = ρ1 k'
                  rw [if_neg (by omega)]; exact hρ k' hk'
                · dsimp only
                  by_cases hys : y' = sf
                  · rw [if_pos hys, if_pos hys, if_pos (hz.mp z), hsfx, hsfx0, if_pos rfl, Nat.zero_add]
                  · rw [if_neg hys, if_neg hys]
                    have := hc.1 y' (by omega)
                    dsimp only at this
                    rw [← this, hsfx, if_neg (c := ρ i = ρs y') (fun w => nw z y' (by omega) w.symm), Nat.add_zero]
                · dsimp only at hr
                  by_cases hre : ρ i = r
                  · exact ⟨sf, by omega, by dsimp only; rw [if_pos rfl]; exact hre⟩
                  · rw [hsfx, if_neg hre, Nat.add_zero] at hr
                    obtain ⟨y', hy, ey⟩ := hc.2 r hr
                    exact ⟨y', by omega, by dsimp only; rw [if_neg (by omega)]; exact ey⟩
              | succ f'' ih'' =>
                intro c m1 hc' hfr1 hcp
                have hle3 : ¬ (3 : Int32) ≤ qi c := fun w => by have := (qi_le (a := 3) (by omega) (by omega)).mp w; omega
                have e29 : m1 193 29 = qi sf := by rw [hfr1 _ _ (by omega)]; exact hsf
                have eI : (3 : Int32) * m1 193 29 + qi c = qi (3 * sf + c) := by rw [e29, q3, qi_add]
                have eJ : (3 : Int32) * qi i + qi c = qi (3 * i + c) := by rw [q3, qi_add]
                refine bMo_addNew_132 hX (fun w => absurd w hle3) (fun w => absurd w hle3) (fun w => absurd w hle3) (fun _ => by rw [eJ]; exact qi_inx (by omega) (by omega)) (fun _ => by rw [eI]; exact qi_inx (by omega) (by omega)) (fun _ => ?_)
                rw [eI, eJ, qi_1, qi_N (a := 3 * sf + c) (by omega), qi_N (a := 3 * i + c) (by omega)]
                refine ih'' (c + 1) _ (by omega) (fun j q w => by rw [mup_q, if_neg (by omega)]; exact hfr1 j q (by omega)) (fun y' hy => ?_)
                rw [mup_q]
                rcases Nat.lt_or_eq_of_le (Nat.le_of_lt_succ hy) with h' | h'
                · rw [if_neg (by omega)]; exact hcp y' h'
                · rw [if_pos (by omega), h']; exact hfr1 _ _ (by omega)
            exact ap 3 0 m (by omega) (fun j q _ => rfl) (fun y' hy => absurd hy (by omega))
          · -- no room
            have h64 : sf = 64 := by rw [hsf] at y; exact qi_inj (b := 64) (by have := hls.1; omega) (by omega) y
            refine k0 m hfr (nofitN (n := sf) (ρ := ρs) (x := ρ i) (by omega) hls.2.2 (nw z) (fun y' hy => ?_) ?_)
            · have h' := hc.1 y' hy
              have h'' := (hls.2.1 y' hy).2.2
              dsimp only at h'
              by_cases hr : c1 (ρs y') = 0
              · rw [if_pos hr] at h' ⊢
                have := sfx_le (ρ := ρ) (κ := κ) (r := ρs y') i (n - i)
                rw [show i + (n - i) = n by omega, sfx_allN g3 hC] at this
                omega
              · rw [if_neg hr]; exact hr
            · rw [if_pos (hz.mp z), ← sfx_allN g3 hC (ρ i), sfx_one n (j := i) (by omega) rfl (fun j hj hne hw => hne (g3 j i hj (by omega) hw))]
              have := hgi.2.2
              omega
        | succ f' ih' =>
          intro k a3 hk ha3 hiff
          have hle2 : ¬ qi h ≤ qi k := by rw [qi_le (by omega) (by omega)]; omega
          have hk64 : k < 64 := by have := hls.1; omega
          have hk3 : at3 m 213 k (ρ1 k) := by
            have := (hls.2.1 k (by omega)).1
            rw [hρ k (by omega)] at this
            exact this
          have heq := at3_eq hk3 hx
          have yes : (¬ ∀ y, y < k + 1 → ¬ ρ1 y = ρ i) → QW d mMo_addNew 98 (lMo_addNew_98 (qi h) (qi i) a3 (qi k)) [] (hpo X m sw o e) P := fun hw => by
            refine bMo_addNew_98 hX (bMo_addNew_103 hX ?_)
            rw [qi_1]
            exact ih' (k + 1) 1 (by omega) (Or.inr rfl) ⟨fun w => absurd w (by decide), fun w => absurd w hw⟩
          have nope : a3 = 0 → ¬ ρ1 k = ρ i → QW d mMo_addNew 102 (lMo_addNew_102 (qi h) (qi i) a3 (qi k)) [] (hpo X m sw o e) P := fun h0 hne => by
            refine bMo_addNew_102 hX (bMo_addNew_103 hX ?_)
            rw [qi_1]
            refine ih' (k + 1) 0 (by omega) (Or.inl rfl) ⟨fun _ y hy => ?_, fun _ => rfl⟩
            rcases Nat.lt_or_eq_of_le (Nat.le_of_lt_succ hy) with h' | h'
            · exact hiff.mp h0 y h'
            · rw [h']; exact hne
          have nk0 : Int32.toNatClampNeg (3 * qi k) = 3 * k := by rw [q3, qi_N (by omega)]
          have nk1 : Int32.toNatClampNeg (3 * qi k + 1) = 3 * k + 1 := by rw [(x3 k).1, qi_N (by omega)]
          have nk2 : Int32.toNatClampNeg (3 * qi k + 2) = 3 * k + 2 := by rw [(x3 k).2, qi_N (by omega)]
          refine bMo_addNew_20 hX (fun w => absurd w hle2) (fun w => absurd w hle2) (fun w => absurd w hle2) (fun _ z => yes (fun w => z (hiff.mpr (fun y hy => w y (by omega))))) (fun _ _ => by rw [q3]; exact qi_inx (by omega) (by omega)) (fun _ _ => i0) (fun _ z y => ?_) (fun _ _ _ => by rw [(x3 k).1]; exact qi_inx (by omega) (by omega)) (fun _ _ _ => i1') (fun _ z _ y => ?_) (fun _ _ _ _ => by rw [(x3 k).2]; exact qi_inx (by omega) (by omega)) (fun _ _ _ _ => i2') (fun _ z _ _ y => ?_) (fun _ z y0 y1 y2 => ?_)
          · rw [nk0, ni0] at y
            exact nope z (fun w => y (heq.mp w).1)
          · rw [nk1, ni1] at y
            exact nope z (fun w => y (heq.mp w).2.1)
          · rw [nk2, ni2] at y
            exact nope z (fun w => y (heq.mp w).2.2)
          · rw [nk0, ni0] at y0
            rw [nk1, ni1] at y1
            rw [nk2, ni2] at y2
            exact yes (fun w => w k (by omega) (heq.mpr ⟨y0, y1, y2⟩))
      exact look h 0 0 (by omega) (Or.inl rfl) ⟨fun _ y hy => absurd hy (by omega), fun _ => rfl⟩
  refine bMo_addNew_0 hX ?_
  rw [hh]
  refine lp n 0 mem h ρ1 κ1 .unset .unset (Or.inl rfl) (Or.inl rfl) (by omega) (fun j q _ _ => rfl) hh (Nat.le_refl _) ⟨f1, f2, f3⟩ (fun k _ => rfl) ?_
  have : (fun r => if c1 r = 0 then sfx ρ κ r 0 else c1 r) = c1 := funext fun r => by
    by_cases hr : c1 r = 0
    · rw [if_pos hr, hr]; rfl
    · rw [if_neg hr]
  rw [this]
  exact ⟨i1, i2⟩
end MMG
