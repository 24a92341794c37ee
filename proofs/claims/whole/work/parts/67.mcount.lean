/-- a slot against the reference's value -/
def vlr (m0 : Nat → Nat → Int32) (B ns sl : Nat) (v : Int32) : Prop := (m0 (B + 5) sl = -1 ∧ v = 2000 + m0 (B + 6) sl ∧ 1000 < v) ∨ ∃ s c, s < ns ∧ c < 3 ∧ m0 (B + 5) sl = qi s ∧ m0 (B + 6) sl = qi c ∧ v = qi (3 * s + c)
/-- the reference's block mb against the class's at B -/
def mko (m m0 : Nat → Nat → Int32) (B mb no ns nc : Nat) (tb R : Nat → Nat) : Prop := mb < 15 ∧ m 201 mb = m0 B 0 ∧ m 202 mb = qi no ∧ m 204 mb = qi ns ∧ m 207 mb = qi nc ∧ (∀ k, k < ns → m 205 (4 * mb + k) = qi (tb k)) ∧ (∀ k, k < no → vlr m0 B ns k (m 203 (3 * mb + k))) ∧
  (∀ k, k < nc → vlr m0 B ns (3 + 2 * k) (m 208 (6 * mb + k)) ∧ vlr m0 B ns (4 + 2 * k) (m 209 (6 * mb + k)) ∧ m 210 (6 * mb + k) = m0 (B + 3) k) ∧ ∀ t, t < 4 → m 195 t = qi (R t) ∧ ∀ q, q < 24 → m 196 (24 * t + q) = m0 (16 + 3 * t + 2) q
/-- n different rows in the reference's cells a, how often each is there in c -/
def lsF (m : Nat → Nat → Int32) (a c n : Nat) (ρ : Nat → qRw) (κ : Nat → Nat) : Prop := n ≤ 64 ∧ (∀ i, i < n → (m a (3 * i) = (ρ i).1 ∧ m a (3 * i + 1) = (ρ i).2.1 ∧ m a (3 * i + 2) = (ρ i).2.2) ∧ m c i = qi (κ i) ∧ 0 < κ i) ∧ ∀ i j, i < n → j < n → ρ i = ρ j → i = j
def lsR (m : Nat → Nat → Int32) (a c n : Nat) (ct : qRw → Nat) : Prop := ∃ ρ κ, lsF m a c n ρ κ ∧ isC n ρ κ ct
section MRN
variable {d : Nat} {P : qE → Prop} {X : qH} {sw : Bool} {o : Int64} {e : List Nat} {m0 mem : Nat → Nat → Int32} {B mb no ns nc : Nat} {tb R : Nat → Nat}
theorem mko_mono {m m' : Nat → Nat → Int32} (h : mko m m0 B mb no ns nc tb R) (e1 : ∀ j q, (195 ≤ j ∧ j < 197) ∨ (201 ≤ j ∧ j < 211) → m' j q = m j q) : mko m' m0 B mb no ns nc tb R := by
  obtain ⟨h0, h1, h2, h3, h4, h5, h6, h7, h8⟩ := h
  refine ⟨h0, by rw [e1 _ _ (by omega)]; exact h1, by rw [e1 _ _ (by omega)]; exact h2, by rw [e1 _ _ (by omega)]; exact h3, by rw [e1 _ _ (by omega)]; exact h4, fun k hk => by rw [e1 _ _ (by omega)]; exact h5 k hk, fun k hk => by rw [e1 _ _ (by omega)]; exact h6 k hk, fun k hk => ?_, fun t ht => ⟨by rw [e1 _ _ (by omega)]; exact (h8 t ht).1, fun q hq => by rw [e1 _ _ (by omega)]; exact (h8 t ht).2 q hq⟩⟩
  rw [e1 _ _ (by omega), e1 _ _ (by omega), e1 _ _ (by omega)]
  exact h7 k hk
theorem cMo_valueOf {sl : Nat} {v : Int32} {ch : Nat → Nat} (hX : X.length = 13) (hb : bko m0 B no ns nc tb R) (hm : mko mem m0 B mb no ns nc tb R) (hv : vlr m0 B ns sl v) (hat : ∀ s, s < ns → mem 217 s = qi (ch s) ∧ ch s < 8)
    (k : P (.inl (some (.int (evs m0 B tb sl ch))), hpo X mem sw o e)) : QW d mMo_valueOf 0 (qen 3 [.ref 193, .int (qi mb), .int v]) [] (hpo X mem sw o e) P := by
  obtain ⟨h0, h1, h2, h3, h4, h5, h6, h7, h8⟩ := hm
  have hns := hb.2.1
  rcases hv with ⟨a1, a2, a3⟩ | ⟨s, c, a1, a2, a3, a4, a5⟩
  · have hz : ¬ v < 1000 := fun z => Int32.lt_irrefl (Int32.lt_trans z a3)
    refine bMo_valueOf_0 hX (fun z => absurd z hz) (fun z => absurd z hz) (fun z => absurd z hz) (fun z => absurd z hz) (fun _ => ?_)
    rw [evs, if_pos a1] at k
    rw [a2, Int32.add_comm, Int32.add_sub_cancel]
    exact k
  · have hz : v < 1000 := by rw [a5]; exact (qi_lt (b := 1000) (by omega) (by omega)).mpr (by omega)
    have d1 : v / 3 = qi s := by rw [a5, show (3 : Int32) = qi 3 from rfl, qi_div (by omega) (by omega)]; congr 1; omega
    have d2 : v - v / 3 * 3 = qi c := by rw [d1, a5, show (3 : Int32) = qi 3 from rfl, qi_mul, qi_sub (by omega)]; congr 1; omega
    have e4 : (4 : Int32) * qi mb + qi s = qi (4 * mb + s) := by rw [q4, qi_add]
    have nE : Int32.toNatClampNeg (4 * qi mb + qi s) = 4 * mb + s := by rw [e4, qi_N (by omega)]
    have nS : Int32.toNatClampNeg (qi s) = s := qi_N (by omega)
    have hts := (hb.2.2.2.2.2.2.1 s a1).2
    have hch := hat s a1
    have e5 : (24 : Int32) * qi (tb s) + 3 * qi (ch s) + qi c = qi (24 * tb s + (3 * ch s + c)) := by
      rw [show (24 : Int32) = qi 24 from rfl, show (3 : Int32) = qi 3 from rfl, qi_mul, qi_mul, qi_add, qi_add, Nat.add_assoc]
    refine bMo_valueOf_0 hX (fun _ => by rw [d1, e4]; exact qi_inx (by omega) (by omega)) (fun _ => by rw [d1]; exact qi_inx (by omega) (by omega)) (fun _ => ?_) (fun _ => ?_) (fun z => absurd hz z)
    · rw [d2, d1, nE, nS, h5 s a1, hch.1, e5]; exact qi_inx (by omega) (by omega)
    · rw [d2, d1, nE, nS, h5 s a1, hch.1, e5, qi_N (by omega), (h8 (tb s) hts).2 _ (by omega)]
      rw [evs, if_neg (by rw [a3]; exact neg1 s (by omega)), a3, nS, a4, qi_N (a := c) (by omega)] at k
      exact k
theorem cMo_allTrue {ch : Nat → Nat} (hX : X.length = 13) (hb : bko m0 B no ns nc tb R) (hm : mko mem m0 B mb no ns nc tb R) (hat : ∀ s, s < ns → mem 217 s = qi (ch s) ∧ ch s < 8)
    (k1 : (∀ i, i < nc → cnd m0 B tb i ch) → P (.inl (some (.int 1)), hpo X mem sw o e)) (k0 : (¬ ∀ i, i < nc → cnd m0 B tb i ch) → P (.inl (some (.int 0)), hpo X mem sw o e)) : QW (d + 1) mMo_allTrue 0 (qen 6 [.ref 193, .int (qi mb)]) [] (hpo X mem sw o e) P := by
  have hm' := hm
  obtain ⟨h0, h1, h2, h3, h4, h5, h6, h7, h8⟩ := hm'
  have hnc := hb.2.2.1
  have hmi : inx (qi mb) 15 := qi_inx h0 (by omega)
  have nM : Int32.toNatClampNeg (qi mb) = mb := qi_N (by omega)
  have e7 : (6 : Int32) * qi mb + mem 207 (Int32.toNatClampNeg (qi mb)) = qi (6 * mb + nc) := by rw [nM, h4, q6, qi_add]
  have lp : ∀ f i (g : Int32) w4 w5, qfr w4 → qfr w5 → i + f = nc → b01 g → (g = 1 ↔ ∀ x, x < i → cnd m0 B tb x ch) → QW (d + 1) mMo_allTrue 7 (lMo_allTrue_7 (qi mb) g (qi (6 * mb + i)) w4 w5) [] (hpo X mem sw o e) P := by
    intro f
    induction f with
    | zero =>
      intro i g w4 w5 hw4 hw5 hi hg hiff
      have hle : (6 : Int32) * qi mb + mem 207 (Int32.toNatClampNeg (qi mb)) ≤ qi (6 * mb + i) := by rw [e7, show i = nc by omega]; exact Int32.le_refl _
      refine bMo_allTrue_7 hX hw4 hw5 hmi (fun _ => by rcases hg with rfl | rfl <;> decide) (fun _ => ?_) (fun z => absurd hle z) (fun z => absurd hle z)
      obtain rfl : i = nc := by omega
      rcases hg with rfl | rfl
      · exact k0 (fun z => absurd (hiff.mpr z) (by decide))
      · exact k1 (hiff.mp rfl)
    | succ f ih =>
      intro i g w4 w5 hw4 hw5 hi hg hiff
      have hle : ¬ (6 : Int32) * qi mb + mem 207 (Int32.toNatClampNeg (qi mb)) ≤ qi (6 * mb + i) := by rw [e7, qi_le (by omega) (by omega)]; omega
      have hin : inx (qi (6 * mb + i)) 90 := qi_inx (by omega) (by omega)
      have nI : Int32.toNatClampNeg (qi (6 * mb + i)) = 6 * mb + i := qi_N (by omega)
      have h7i := h7 i (by omega)
      have st : ∀ (x y g' : Int32), b01 g' → (g' = 1 ↔ (g = 1 ∧ cnd m0 B tb i ch)) → QW (d + 1) mMo_allTrue 83 (lMo_allTrue_83 (qi mb) g (qi (6 * mb + i)) x y) [.int g'] (hpo X mem sw o e) P := by
        intro x y g' hg' hi'
        refine bMo_allTrue_83 hX ?_
        rw [qi_1]
        refine ih (i + 1) g' _ _ (Or.inr (Or.inl ⟨_, rfl⟩)) (Or.inr (Or.inl ⟨_, rfl⟩)) (by omega) hg' ?_
        rw [hi', hiff]
        constructor
        · rintro ⟨z1, z2⟩ q hq
          rcases Nat.lt_or_eq_of_le (Nat.le_of_lt_succ hq) with h' | h'
          · exact z1 q h'
          · rw [h']; exact z2
        · intro z
          exact ⟨fun q hq => z q (by omega), z i (by omega)⟩
      refine bMo_allTrue_7 hX hw4 hw5 hmi (fun z => absurd z hle) (fun z => absurd z hle) (fun _ => hin) (fun _ => ?_)
      rw [nI]
      refine cMo_valueOf (ch := ch) hX hb hm h7i.1 hat (qcl_i (bMo_allTrue_33 hX hw4 hw5 hin ?_))
      rw [nI]
      have no1 : ¬ g = 0 → g = 1 := fun z => hg.resolve_left z
      refine cMo_valueOf (ch := ch) hX hb hm h7i.2.1 hat (qcl_i (bMo_allTrue_46 hX hw5 (fun z => ?_) (fun _ => hin) (fun z y1 y2 => ?_) (fun z y1 y2 => ?_) (fun z y1 y2 => ?_) (fun z y1 y2 => ?_)))
      · exact bMo_allTrue_82 hX (st _ _ 0 (Or.inl rfl) ⟨fun y => absurd y (by decide), fun y => absurd (z.symm.trans y.1) (by decide)⟩)
      · rw [nI, h7i.2.2] at y1
        exact bMo_allTrue_82 hX (st _ _ 0 (Or.inl rfl) ⟨fun y => absurd y (by decide), fun y => absurd (by have := y.2; rw [cnd, if_pos y1] at this; exact this) y2⟩)
      · rw [nI, h7i.2.2] at y1
        exact bMo_allTrue_78 hX (st _ _ 1 (Or.inr rfl) ⟨fun _ => ⟨no1 z, by rw [cnd, if_pos y1]; exact y2⟩, fun _ => rfl⟩)
      · rw [nI, h7i.2.2] at y1
        exact bMo_allTrue_82 hX (st _ _ 0 (Or.inl rfl) ⟨fun y => absurd y (by decide), fun y => absurd (by have := y.2; rw [cnd, if_neg y1] at this; exact this) (Int32.not_lt.mpr y2)⟩)
      · rw [nI, h7i.2.2] at y1
        exact bMo_allTrue_78 hX (st _ _ 1 (Or.inr rfl) ⟨fun _ => ⟨no1 z, by rw [cnd, if_neg y1]; exact i_le y2⟩, fun _ => rfl⟩)
  refine bMo_allTrue_0 hX ?_
  rw [q6]
  exact lp nc 0 1 .unset .unset (Or.inl rfl) (Or.inl rfl) (by omega) (Or.inr rfl) ⟨fun _ x hx => absurd hx (by omega), fun _ => rfl⟩
theorem nofitN {n : Nat} {ρ : Nat → qRw} {ct : qRw → Nat} {x : qRw} (hn : 64 ≤ n) (hd : ∀ i j, i < n → j < n → ρ i = ρ j → i = j) (hx : ∀ i, i < n → ¬ ρ i = x) (h1 : ∀ i, i < n → ¬ ct (ρ i) = 0) (h2 : ¬ ct x = 0) : ¬ fts ct := by
  rintro ⟨l, hl, hm⟩
  have key : ∀ k, k ≤ n → ∀ l : List qRw, (∀ i, i < k → ρ i ∈ l) → x ∈ l → k + 1 ≤ l.length := by
    intro k
    induction k with
    | zero =>
      intro _ l _ hxl
      exact List.length_pos_of_mem hxl
    | succ k ih =>
      intro hk l hr hxl
      have hin := hr k (by omega)
      have := ih (by omega) (l.erase (ρ k)) (fun i hi => ?_) ?_
      · rw [List.length_erase_of_mem hin] at this
        have := List.length_pos_of_mem hin
        omega
      · refine (List.mem_erase_of_ne ?_).mpr (hr i (by omega))
        intro hz
        have := hd i k (by omega) (by omega) hz
        omega
      · refine (List.mem_erase_of_ne ?_).mpr hxl
        intro hz
        exact hx k (by omega) hz.symm
  have := key n (Nat.le_refl _) l (fun i hi => hm _ (h1 i hi)) (hm x h2)
  omega
/-- the reference counts one more row -/
theorem cMo_count {n : Nat} {ch : Nat → Nat} {raw : qRw → Nat} (hX : X.length = 13) (hb : bko m0 B no ns nc tb R) (hm : mko mem m0 B mb no ns nc tb R) (hat : ∀ s, s < ns → mem 217 s = qi (ch s) ∧ ch s < 8) (hn : mem 193 26 = qi n) (hl : lsR mem 211 212 n (onc (m0 B 0) raw))
    (k1 : ∀ m' n', (∀ j q, ¬ (j = 193 ∧ q = 26) → ¬ (211 ≤ j ∧ j < 213) → ¬ j = 218 → m' j q = mem j q) → m' 193 26 = qi n' → lsR m' 211 212 n' (onc (m0 B 0) (adC raw (otr m0 B no tb ch) 1)) → P (.inl (some (.int 1)), hpo X m' sw o e))
    (k0 : ∀ m', (∀ j q, ¬ j = 218 → m' j q = mem j q) → ¬ fts (adC raw (otr m0 B no tb ch) 1) → P (.inl (some (.int 0)), hpo X m' sw o e)) : QW (d + 1) mMo_count 0 (qen 3 [.ref 193, .int (qi mb)]) [] (hpo X mem sw o e) P := by
  have hm' := hm
  obtain ⟨h0, h1, h2, h3, h4, h5, h6, h7, h8⟩ := hm'
  have hno := hb.1
  have hmi : inx (qi mb) 15 := qi_inx h0 (by omega)
  have nM : Int32.toNatClampNeg (qi mb) = mb := qi_N (by omega)
  obtain ⟨ρ, κ, ⟨g1, g2, g3⟩, i1, i2⟩ := hl
  generalize hx : otr m0 B no tb ch = x at *
  -- the tuple is there
  have srch : ∀ m, (∀ j q, ¬ j = 218 → m j q = mem j q) → m 218 0 = x.1 → m 218 1 = x.2.1 → m 218 2 = x.2.2 → ∀ f i, i + f = n → (∀ y, y < i → ¬ ρ y = x) → QW (d + 1) mMo_count 50 (lMo_count_50 (qi mb) (qi i)) [] (hpo X m sw o e) P := by
    intro m hfr t0 t1 t2 f
    have e26 : m 193 26 = qi n := by rw [hfr _ _ (by omega)]; exact hn
    induction f with
    | zero =>
      intro i hi hno'
      obtain rfl : i = n := by omega
      have hle : m 193 26 ≤ qi i := by rw [e26]; exact Int32.le_refl _
      refine bMo_count_50 hX (fun _ z => ?_) (fun _ z => ?_) (fun z => absurd hle z) (fun z => absurd hle z) (fun z => absurd hle z) (fun z => absurd hle z) (fun z => absurd hle z) (fun z => absurd hle z) (fun z => absurd hle z) (fun z => absurd hle z) (fun z => absurd hle z) (fun z => absurd hle z)
      · have hlt : i < 64 := by
          rcases Nat.lt_or_eq_of_le g1 with h' | h'
          · exact h'
          · rw [e26, h'] at z; exact absurd rfl z
        have hraw : raw x = 0 := by
          by_cases hz : raw x = 0
          · exact hz
          · obtain ⟨y, hy, ey⟩ := i2 x (fun w => hz (onc_nz.mp w))
            exact absurd ey (hno' y hy)
        -- append
        have ap : ∀ f c m1, c + f = 3 → (∀ j q, ¬ j = 218 → ¬ (j = 211 ∧ 3 * i ≤ q ∧ q < 3 * i + c) → m1 j q = mem j q) → m1 218 0 = x.1 → m1 218 1 = x.2.1 → m1 218 2 = x.2.2 → (∀ y, y < c → m1 211 (3 * i + y) = m1 218 y) → QW (d + 1) mMo_count 157 (lMo_count_157 (qi mb) (qi c)) [] (hpo X m1 sw o e) P := by
          intro f
          induction f with
          | zero =>
            intro c m1 hc hfr1 u0 u1 u2 hcp
            obtain rfl : c = 3 := by omega
            have e26' : m1 193 26 = qi i := by rw [hfr1 _ _ (by omega) (by omega)]; exact hn
            refine bMo_count_157 hX (fun _ => by rw [e26']; exact qi_inx hlt (by omega)) (fun _ => ?_) (fun z => absurd (by decide) z) (fun z => absurd (by decide) z) (fun z => absurd (by decide) z)
            rw [e26', qi_N (by omega), mup_ce (by omega), e26', qi_1]
            refine k1 _ (i + 1) (fun j q z1 z2 z3 => by rw [mup_q, if_neg z1, mup_q, if_neg (by omega)]; exact hfr1 j q z3 (by omega)) (mup_at _ _ _ _) ⟨fun y => if y = i then x else ρ y, fun y => if y = i then 1 else κ y, ⟨by omega, fun y hy => ?_, fun y z hy hz hyz => ?_⟩, fun y hy => ?_, fun r hr => ?_⟩
            · dsimp only
              by_cases hyi : y = i
              · subst hyi
                rw [if_pos rfl, if_pos rfl]
                refine ⟨⟨?_, ?_, ?_⟩, ?_, by omega⟩
                · rw [mup_ce (by omega), mup_ce (by omega)]; exact (hcp 0 (by omega)).trans u0
                · rw [mup_ce (by omega), mup_ce (by omega)]; exact (hcp 1 (by omega)).trans u1
                · rw [mup_ce (by omega), mup_ce (by omega)]; exact (hcp 2 (by omega)).trans u2
                · rw [mup_ce (by omega), mup_at]; rfl
              · rw [if_neg hyi, if_neg hyi]
                have := g2 y (by omega)
                refine ⟨⟨?_, ?_, ?_⟩, ?_, this.2.2⟩
                · rw [mup_ce (by omega), mup_ce (by omega), hfr1 _ _ (by omega) (by omega)]; exact this.1.1
                · rw [mup_ce (by omega), mup_ce (by omega), hfr1 _ _ (by omega) (by omega)]; exact this.1.2.1
                · rw [mup_ce (by omega), mup_ce (by omega), hfr1 _ _ (by omega) (by omega)]; exact this.1.2.2
                · rw [mup_ce (by omega), mup_q, if_neg (by omega), hfr1 _ _ (by omega) (by omega)]; exact this.2.1
            · dsimp only at hyz
              by_cases hyi : y = i
              · by_cases hzi : z = i
                · omega
                · rw [if_pos hyi, if_neg hzi] at hyz
                  exact absurd hyz.symm (hno' z (by omega))
              · by_cases hzi : z = i
                · rw [if_neg hyi, if_pos hzi] at hyz
                  exact absurd hyz (hno' y (by omega))
                · rw [if_neg hyi, if_neg hzi] at hyz
                  exact g3 y z (by omega) (by omega) hyz
            · dsimp only
              by_cases hyi : y = i
              · rw [if_pos hyi, if_pos hyi]
                unfold onc adC
                rw [if_pos rfl, hraw]
                split <;> rfl
              · rw [if_neg hyi, if_neg hyi, ← i1 y (by omega)]
                unfold onc adC
                rw [if_neg (hno' y (by omega))]
            · by_cases hrx : r = x
              · exact ⟨i, by omega, by dsimp only; rw [if_pos rfl]; exact hrx.symm⟩
              · have : ¬ onc (m0 B 0) raw r = 0 := fun w => hr (onc_nz.mpr (by unfold adC; rw [if_neg hrx]; exact onc_nz.mp w))
                obtain ⟨y, hy, ey⟩ := i2 r this
                exact ⟨y, by omega, by dsimp only; rw [if_neg (by omega)]; exact ey⟩
          | succ f ih =>
            intro c m1 hc hfr1 u0 u1 u2 hcp
            have hle3 : ¬ (3 : Int32) ≤ qi c := fun z => by have := (qi_le (a := 3) (by omega) (by omega)).mp z; omega
            have e26' : m1 193 26 = qi i := by rw [hfr1 _ _ (by omega) (by omega)]; exact hn
            have eI : (3 : Int32) * m1 193 26 + qi c = qi (3 * i + c) := by rw [e26', q3, qi_add]
            refine bMo_count_157 hX (fun z => absurd z hle3) (fun z => absurd z hle3) (fun _ => qi_inx (by omega) (by omega)) (fun _ => by rw [eI]; exact qi_inx (by omega) (by omega)) (fun _ => ?_)
            rw [eI, qi_1, qi_N (a := 3 * i + c) (by omega), qi_N (a := c) (by omega)]
            refine ih (c + 1) _ (by omega) (fun j q z1 z2 => by rw [mup_q, if_neg (by omega)]; exact hfr1 j q z1 (by omega)) (by rw [mup_ce (by omega)]; exact u0) (by rw [mup_ce (by omega)]; exact u1) (by rw [mup_ce (by omega)]; exact u2) (fun y hy => ?_)
            rw [mup_ce (show 218 ≠ 211 by omega), mup_q]
            rcases Nat.lt_or_eq_of_le (Nat.le_of_lt_succ hy) with h' | h'
            · rw [if_neg (by omega)]; exact hcp y h'
            · rw [if_pos (by omega), h']
        exact ap 3 0 m (by omega) (fun j q z1 _ => hfr j q z1) t0 t1 t2 (fun y hy => absurd hy (by omega))
      · have hn64 : i = 64 := by rw [e26] at z; exact qi_inj (b := 64) (by omega) (by omega) z
        refine k0 m hfr (nofitN (n := i) (ρ := ρ) (by omega) g3 hno' (fun y hy => ?_) ?_)
        · unfold adC
          rw [if_neg (hno' y hy)]
          intro w
          have h' := i1 y hy
          have h'' := (g2 y hy).2.2
          rw [onc_nz.mpr w] at h'
          omega
        · unfold adC
          rw [if_pos rfl]; omega
    | succ f ih =>
      intro i hi hno'
      have hle : ¬ m 193 26 ≤ qi i := by rw [e26, qi_le (by omega) (by omega)]; omega
      have hgi := g2 i (by omega)
      have x0 : (3 : Int32) * qi i = qi (3 * i) := q3 i
      have x1 : (3 : Int32) * qi i + 1 = qi (3 * i + 1) := by rw [q3, qi_1]
      have x2 : (3 : Int32) * qi i + 2 = qi (3 * i + 2) := by rw [q3]; exact qi_add _ 2
      have n0 : m 211 (Int32.toNatClampNeg (3 * qi i)) = (ρ i).1 := by rw [x0, qi_N (by omega), hfr _ _ (by omega)]; exact hgi.1.1
      have n1 : m 211 (Int32.toNatClampNeg (3 * qi i + 1)) = (ρ i).2.1 := by rw [x1, qi_N (by omega), hfr _ _ (by omega)]; exact hgi.1.2.1
      have n2 : m 211 (Int32.toNatClampNeg (3 * qi i + 2)) = (ρ i).2.2 := by rw [x2, qi_N (by omega), hfr _ _ (by omega)]; exact hgi.1.2.2
      have z0 : m 218 (Int32.toNatClampNeg 0) = x.1 := t0
      have z1 : m 218 (Int32.toNatClampNeg 1) = x.2.1 := t1
      have z2 : m 218 (Int32.toNatClampNeg 2) = x.2.2 := t2
      have nI : Int32.toNatClampNeg (qi i) = i := qi_N (by omega)
      have nx : ¬ ρ i = x → QW (d + 1) mMo_count 50 (lMo_count_50 (qi mb) (qi i + 1)) [] (hpo X m sw o e) P := by
        intro hne
        rw [qi_1]
        refine ih (i + 1) (by omega) (fun y hy => ?_)
        rcases Nat.lt_or_eq_of_le (Nat.le_of_lt_succ hy) with h' | h'
        · exact hno' y h'
        · rw [h']; exact hne
      -- the row is there
      have fnd : ρ i = x → ∀ v : Int32, v = (if m0 B 0 = 0 then 1 else 0) → QW (d + 1) mMo_count 134 (lMo_count_134 (qi mb) (qi i)) [.int v, .int (m 212 (Int32.toNatClampNeg (qi i))), .int (qi i), .ref 212] (hpo X m sw o e) P := by
        intro he v hv
        refine bMo_count_134 hX (qi_inx (by omega) (by omega)) ?_
        rw [nI, show m 212 i = qi (κ i) by rw [hfr _ _ (by omega)]; exact hgi.2.1]
        have hraw : ¬ raw x = 0 := fun w => by
          have h' := i1 i (by omega)
          rw [he, onc_nz.mpr w] at h'
          have := hgi.2.2
          omega
        refine k1 _ n (fun j q y1 y2 y3 => by rw [mup_q, if_neg (by omega)]; exact hfr j q y3) (by rw [mup_ce (by omega)]; exact e26) ⟨ρ, fun y => if y = i then onc (m0 B 0) (adC raw x 1) x else κ y, ⟨g1, fun y hy => ?_, g3⟩, fun y hy => ?_, fun r hr => ?_⟩
        · have hgy := g2 y hy
          dsimp only
          refine ⟨⟨?_, ?_, ?_⟩, ?_, ?_⟩
          · rw [mup_ce (by omega), hfr _ _ (by omega)]; exact hgy.1.1
          · rw [mup_ce (by omega), hfr _ _ (by omega)]; exact hgy.1.2.1
          · rw [mup_ce (by omega), hfr _ _ (by omega)]; exact hgy.1.2.2
          · rw [mup_q]
            by_cases hyi : y = i
            · rw [if_pos ⟨rfl, hyi⟩, if_pos hyi, hv, ← i1 i (by omega), he]
              unfold onc adC
              rw [if_pos rfl]
              by_cases hB0 : m0 B 0 = 0
              · rw [if_pos hB0, if_pos hB0, if_pos hB0]; exact qi_1 _
              · rw [if_neg hB0, if_neg hB0, if_neg hB0, if_neg hraw, if_neg (by omega)]; rfl
            · rw [if_neg (fun w => hyi w.2), if_neg hyi, hfr _ _ (by omega)]; exact hgy.2.1
          · by_cases hyi : y = i
            · rw [if_pos hyi]
              refine Nat.pos_of_ne_zero (fun w => ?_)
              have := onc_nz.mp w
              unfold adC at this
              rw [if_pos rfl] at this
              omega
            · rw [if_neg hyi]; exact hgy.2.2
        · dsimp only
          by_cases hyi : y = i
          · rw [if_pos hyi, hyi, he]
          · rw [if_neg hyi, ← i1 y hy]
            have : ¬ ρ y = x := fun w => hyi (g3 y i hy (by omega) (w.trans he.symm))
            unfold onc adC
            rw [if_neg this]
        · by_cases hrx : r = x
          · exact ⟨i, by omega, he.trans hrx.symm⟩
          · exact i2 r (fun w => hr (onc_nz.mpr (by unfold adC; rw [if_neg hrx]; exact onc_nz.mp w)))
      have e201 : m 201 (Int32.toNatClampNeg (qi mb)) = m0 B 0 := by rw [nM, hfr _ _ (by omega)]; exact h1
      refine bMo_count_50 hX (fun z => absurd z hle) (fun z => absurd z hle) (fun _ => by rw [x0]; exact qi_inx (by omega) (by omega)) (fun _ y => nx (fun w => y (by rw [n0, z0, w]))) (fun _ _ => by rw [x1]; exact qi_inx (by omega) (by omega)) (fun _ _ y => nx (fun w => y (by rw [n1, z1, w]))) (fun _ _ _ => by rw [x2]; exact qi_inx (by omega) (by omega)) (fun _ _ _ y => nx (fun w => y (by rw [n2, z2, w]))) (fun _ _ _ _ => qi_inx (by omega) (by omega)) (fun _ _ _ _ => hmi) (fun _ y0 y1 y2 y => ?_) (fun _ y0 y1 y2 y => ?_)
      · rw [n0, z0] at y0
        rw [n1, z1] at y1
        rw [n2, z2] at y2
        rw [e201] at y
        exact fnd (Prod.ext y0 (Prod.ext y1 y2)) 1 (by rw [if_pos y])
      · rw [n0, z0] at y0
        rw [n1, z1] at y1
        rw [n2, z2] at y2
        rw [e201] at y
        exact fnd (Prod.ext y0 (Prod.ext y1 y2)) 0 (by rw [if_neg y])
  -- the tuple
  have tup : ∀ f c m, c + f = 3 → (∀ j q, ¬ j = 218 → m j q = mem j q) → (∀ y, y < c → m 218 y = (if y < no then evs m0 B tb y ch else 0)) → QW (d + 1) mMo_count 2 (lMo_count_2 (qi mb) (qi c)) [] (hpo X m sw o e) P := by
    intro f
    induction f with
    | zero =>
      intro c m hc hfr ht
      obtain rfl : c = 3 := by omega
      refine bMo_count_2 hX (fun _ => ?_) (fun z => absurd (by decide) z) (fun z => absurd (by decide) z) (fun z => absurd (by decide) z) (fun z => absurd (by decide) z)
      refine srch m hfr ?_ ?_ ?_ n 0 (by omega) (fun y hy => absurd hy (by omega))
      · rw [ht 0 (by omega), if_pos (by omega), ← hx]; rfl
      · rw [ht 1 (by omega), ← hx]; rfl
      · rw [ht 2 (by omega), ← hx]; rfl
    | succ f ih =>
      intro c m hc hfr ht
      have hle3 : ¬ (3 : Int32) ≤ qi c := fun z => by have := (qi_le (a := 3) (by omega) (by omega)).mp z; omega
      have e202 : (m 202 (Int32.toNatClampNeg (qi mb)) ≤ qi c) ↔ no ≤ c := by rw [nM, hfr _ _ (by omega), h2]; exact qi_le (by omega) (by omega)
      have st : ∀ v : Int32, v = (if c < no then evs m0 B tb c ch else 0) → QW (d + 1) mMo_count 41 (lMo_count_41 (qi mb) (qi c)) [.int v, .int (qi c), .ref 218] (hpo X m sw o e) P := by
        intro v hv
        refine bMo_count_41 hX (qi_inx (by omega) (by omega)) ?_
        rw [qi_1, qi_N (by omega)]
        refine ih (c + 1) _ (by omega) (fun j q a => by rw [mup_ce a]; exact hfr j q a) (fun y hy => ?_)
        rw [mup_q]
        rcases Nat.lt_or_eq_of_le (Nat.le_of_lt_succ hy) with h' | h'
        · rw [if_neg (by omega)]; exact ht y h'
        · rw [if_pos (by omega), h']; exact hv
      refine bMo_count_2 hX (fun z => absurd z hle3) (fun _ => hmi) (fun _ z => st 0 (by rw [if_neg (by have := e202.mp z; omega)])) (fun _ _ => by rw [q3, qi_add]; exact qi_inx (by omega) (by omega)) (fun _ z => ?_)
      have hcn : c < no := by have := mt e202.mpr z; omega
      rw [q3, qi_add, qi_N (by omega)]
      refine cMo_valueOf (ch := ch) hX hb (mko_mono hm (fun j q _ => hfr _ _ (by omega))) (by rw [hfr _ _ (by omega)]; exact h6 c hcn) (fun s hs => by rw [hfr _ _ (by omega)]; exact hat s hs) (qcl_i (bMo_count_37 hX (st _ (by rw [if_pos hcn]))))
  exact bMo_count_0 hX (tup 3 0 mem (by omega) (fun j q _ => rfl) (fun y hy => absurd hy (by omega)))
end MRN
