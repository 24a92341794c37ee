/-- a value that a text can hold -/
def okv (v : qV) : Prop := (v.1 = 0 ∧ ∃ b : Nat, b < 1000 ∧ (v.2 = qi b ∨ v.2 = -(qi b))) ∨ (∃ c b : Nat, v.1 = qi c ∧ 97 ≤ c ∧ c ≤ 122 ∧ v.2 = qi b ∧ b < 1000)
section MGR
variable {d : Nat} {P : qE → Prop} {X : qH} {sw : Bool} {o : Int64} {e : List Nat} {N : Nat} {K V G : Nat → Int32} {S E : Nat → Nat} {f : Nat → Int32} {L : Nat} {mb : Nat}
theorem pv_ok {n n' : Nat} {v : qV} (h : qLx f L N K S V E G) (hn : n ≤ N) (hp : pv K V n = (some v, n')) : okv v := by
  unfold pv at hp
  have nx : ∀ x, K n = x → ¬ x = 0 → n < N := fun x hx h0 => by
    rcases Nat.lt_or_eq_of_le hn with h' | h'
    · exact h'
    · rw [h', h.2.2.2.2.1] at hx; exact absurd hx.symm h0
  split at hp
  · rename_i h1
    have := nx _ h1 (by decide)
    split at hp
    · rename_i h2
      simp at hp
      obtain ⟨_, b, hb, hl⟩ := lx_amt h (n := n + 1) (by omega) h2
      rw [← hp.1]
      exact Or.inl ⟨rfl, b, hl, Or.inr (by rw [hb])⟩
    · simp at hp
  · split at hp
    · rename_i h2
      simp at hp
      obtain ⟨_, b, hb, hl⟩ := lx_amt h hn h2
      rw [← hp.1]
      exact Or.inl ⟨rfl, b, hl, Or.inl hb⟩
    · split at hp
      · rename_i h3
        have n1 := nx _ h3 (by decide)
        split at hp
        · rename_i h4
          have n2 : n + 1 < N := by
            rcases Nat.lt_or_eq_of_le (show n + 1 ≤ N by omega) with h' | h'
            · exact h'
            · rw [h', h.2.2.2.2.1] at h4; exact absurd h4 (by decide)
          split at hp
          · rename_i h5
            simp at hp
            obtain ⟨_, b, hb, hl⟩ := lx_amt h (n := n + 2) (by omega) h5
            obtain ⟨_, _, _, _, c, hc, c1, c2⟩ := lx_nm h hn h3
            rw [← hp.1]
            exact Or.inr ⟨c, b, hc, c1, c2, hb, hl⟩
          · simp at hp
        · simp at hp
      · simp at hp
theorem enc_num {v : qV} (h0 : v.1 = 0) (h : okv v) : ∃ b : Nat, enc v = qi b ∧ 1000 < b ∧ b < 3000 := by
  rcases h with ⟨_, b, hb, hv⟩ | ⟨c, b, hc, c1, c2, _⟩
  · rw [enc, if_pos h0]
    rcases hv with hv | hv
    · exact ⟨2000 + b, by rw [hv]; exact qi_add 2000 b, by omega, by omega⟩
    · refine ⟨2000 - b, ?_, by omega, by omega⟩
      rw [hv, ← Int32.sub_eq_add_neg]
      exact qi_sub (a := 2000) (by omega)
  · rw [h0] at hc
    have := qi_inj (a := 0) (by omega) (by omega) hc
    omega
theorem enc_col {c b : Nat} {v : qV} (hc : v.1 = qi c) (c1 : 97 ≤ c) (c2 : c ≤ 122) (hb : v.2 = qi b) (_hl : b < 1000) : enc v = qi (10000 + 1000 * (c - 97) + b) := by
  rw [enc, if_neg (by intro z; rw [hc] at z; have := qi_inj (b := 0) (by omega) (by omega) z; omega), hc, hb, show (97 : Int32) = qi 97 from rfl, qi_sub c1, show (1000 : Int32) = qi 1000 from rfl, qi_mul, show (10000 : Int32) = qi 10000 from rfl, qi_add, qi_add]
theorem enc_nn {v : qV} (h : okv v) : ∃ b : Nat, enc v = qi b ∧ b < 100000 := by
  by_cases h0 : v.1 = 0
  · obtain ⟨b, hb, _, hl⟩ := enc_num h0 h
    exact ⟨b, hb, by omega⟩
  · rcases h with ⟨h1, _⟩ | ⟨c, b, hc, c1, c2, hb, hl⟩
    · exact absurd h1 h0
    · exact ⟨_, enc_col hc c1 c2 hb hl, by omega⟩
theorem enc_ge {v : qV} (h : okv v) : (0 : Int32) ≤ enc v := by
  obtain ⟨b, hb, hl⟩ := enc_nn h
  rw [hb]
  exact (qi_le (a := 0) (by omega) (Nat.lt_trans hl (by decide))).mpr (by omega)
theorem q3 (m : Nat) : (3 : Int32) * qi m = qi (3 * m) := by rw [show (3 : Int32) = qi 3 from rfl, qi_mul]
theorem q4 (m : Nat) : (4 : Int32) * qi m = qi (4 * m) := by rw [show (4 : Int32) = qi 4 from rfl, qi_mul]
theorem q6 (m : Nat) : (6 : Int32) * qi m = qi (6 * m) := by rw [show (6 : Int32) = qi 6 from rfl, qi_mul]
theorem moOut (hX : X.length = 13) (h : qLx f L N K S V E G) (hmb : mb < 15) : ∀ (g i n : Nat) (mem : Nat → Nat → Int32) (w3 : Slot), qfr w3 → i + (g + 1) = 3 → mtk mem f L S V E G n → n ≤ N → mem 202 mb = qi i →
    (∀ m' l n', pls K V (g + 1) n = (some l, n') → n' ≤ N → mtk m' f L S V E G n' → (∀ j q, ¬ (j = 193 ∧ 9 ≤ q ∧ q < 13) → ¬ (j = 202 ∧ q = mb) → ¬ (j = 203 ∧ 3 * mb + i ≤ q ∧ q < 3 * mb + 3) → m' j q = mem j q) → m' 202 mb = qi (i + l.length) → (∀ k v, l[k]? = some v → m' 203 (3 * mb + (i + k)) = enc v ∧ okv v) → P (.inl (some (.int 1)), hpo X m' sw o e)) →
    (∀ m' n', pls K V (g + 1) n = (none, n') → n' ≤ N → mtk m' f L S V E G n' → (∀ j q, ¬ (j = 193 ∧ 9 ≤ q ∧ q < 13) → ¬ (j = 202 ∧ q = mb) → ¬ (j = 203 ∧ 3 * mb + i ≤ q ∧ q < 3 * mb + 3) → m' j q = mem j q) → P (.inl (some (.int 0)), hpo X m' sw o e)) →
    QW (d + 1 + 1 + 1 + 1) mMo_readOutputs 9 (lMo_readOutputs_9 (qi mb) 1 w3) [] (hpo X mem sw o e) P := by
  intro g
  induction g with
  | zero =>
    intro i n mem w3 hw3 hi hm hn hc k1 k0
    obtain rfl : i = 2 := by omega
    have hmi : inx (qi mb) 15 := qi_inx hmb (by omega)
    refine bMo_readOutputs_9 hX hw3 (fun z => absurd z (by decide)) (fun _ => cMo_value hX h hn hm (fun m1 v n1 h1 h2 h3 h4 => ?_) (fun m1 n1 h1 h2 h3 h4 => ?_))
    · have hv := pv_ok h hn h1
      have hge := enc_ge hv
      have e202 : m1 202 mb = qi 2 := by rw [h3 _ _ (by omega)]; exact hc
      have eN : Int32.toNatClampNeg (qi mb) = mb := qi_N (by omega)
      have ei : (3 : Int32) * qi mb + qi 2 = qi (3 * mb + 2) := by rw [q3, qi_add]
      refine qcl_i (bMo_readOutputs_17 hX hw3 (fun _ => hmi) (fun _ => ?_) (fun _ => hmi) (fun _ => hmi) (fun _ => hmi) (fun _ _ => ?_) (fun _ z => ?_) (fun z => absurd hge z))
      · rw [eN, e202, ei]; exact qi_inx (by omega) (by omega)
      · rw [eN, e202, ei, qi_N (a := 3 * mb + 2) (by omega)]
        refine bMo_readOutputs_73 hX (bMo_readOutputs_74 hX (bMo_readOutputs_9 hX (Or.inr (Or.inl ⟨_, rfl⟩)) (fun _ => ?_) (fun z => absurd rfl z)))
        refine k1 _ [v] n1 (by simp [pls, h1]) h2 (mtk_mono h4 (fun q a b => by (repeat (rw [mup_q]; first | rw [if_pos (by omega)] | rw [if_neg (by omega)]))) (fun q => by (repeat (rw [mup_q]; first | rw [if_pos (by omega)] | rw [if_neg (by omega)])))) (fun j q a b c => by (repeat (rw [mup_q]; first | rw [if_pos (by omega)] | rw [if_neg (by omega)])); exact h3 j q a) ?_ ?_
        · (repeat (rw [mup_q]; first | rw [if_pos (by omega)] | rw [if_neg (by omega)]))
          rw [e202]; rfl
        · intro k w hk
          rcases k with _ | k
          · cases hk
            exact ⟨by (repeat (rw [mup_q]; first | rw [if_pos (by omega)] | rw [if_neg (by omega)])), hv⟩
          · simp at hk
      · exfalso
        apply z
        rw [eN, e202, ei, qi_N (a := 3 * mb + 2) (by omega), mup_at, mup_ce (by omega), e202]
        decide
    · exact qcl_i (bMo_readOutputs_17 hX hw3 (fun z => absurd z (by decide)) (fun z => absurd z (by decide)) (fun z => absurd z (by decide)) (fun z => absurd z (by decide)) (fun z => absurd z (by decide)) (fun z => absurd z (by decide)) (fun z => absurd z (by decide)) (fun _ => k0 m1 n1 (by simp [pls, h1]) h2 h4 (fun j q a b c => h3 j q a)))
  | succ g ih =>
    intro i n mem w3 hw3 hi hm hn hc k1 k0
    have hmi : inx (qi mb) 15 := qi_inx hmb (by omega)
    refine bMo_readOutputs_9 hX hw3 (fun z => absurd z (by decide)) (fun _ => cMo_value hX h hn hm (fun m1 v n1 h1 h2 h3 h4 => ?_) (fun m1 n1 h1 h2 h3 h4 => ?_))
    · have hv := pv_ok h hn h1
      have hge := enc_ge hv
      have e202 : m1 202 mb = qi i := by rw [h3 _ _ (by omega)]; exact hc
      have eN : Int32.toNatClampNeg (qi mb) = mb := qi_N (by omega)
      have ei : (3 : Int32) * qi mb + qi i = qi (3 * mb + i) := by rw [q3, qi_add]
      have ec : mup (mup m1 203 (3 * mb + i) (enc v)) 202 mb (mup m1 203 (3 * mb + i) (enc v) 202 mb + 1) 202 mb = qi (i + 1) := by rw [mup_at, mup_ce (by omega), e202, qi_1]
      have hfr : ∀ j q, ¬ (j = 202 ∧ q = mb) → ¬ (j = 203 ∧ q = 3 * mb + i) → mup (mup m1 203 (3 * mb + i) (enc v)) 202 mb (mup m1 203 (3 * mb + i) (enc v) 202 mb + 1) j q = m1 j q := fun j q a b => by (repeat (rw [mup_q]; first | rw [if_pos (by omega)] | rw [if_neg (by omega)]))
      have e203 : mup (mup m1 203 (3 * mb + i) (enc v)) 202 mb (mup m1 203 (3 * mb + i) (enc v) 202 mb + 1) 203 (3 * mb + i) = enc v := by (repeat (rw [mup_q]; first | rw [if_pos (by omega)] | rw [if_neg (by omega)]))
      refine qcl_i (bMo_readOutputs_17 hX hw3 (fun _ => hmi) (fun _ => ?_) (fun _ => hmi) (fun _ => hmi) (fun _ => hmi) (fun _ z => ?_) (fun _ _ => ?_) (fun z => absurd hge z))
      · rw [eN, e202, ei]; exact qi_inx (by omega) (by omega)
      · exfalso
        rw [eN, e202, ei, qi_N (a := 3 * mb + i) (by omega), ec] at z
        have := (qi_le (a := 3) (by omega) (by omega)).mp z
        omega
      · rw [eN, e202, ei, qi_N (a := 3 * mb + i) (by omega)]
        generalize mup (mup m1 203 (3 * mb + i) (enc v)) 202 mb (mup m1 203 (3 * mb + i) (enc v) 202 mb + 1) = m2 at ec hfr e203 ⊢
        have hm2 : mtk m2 f L S V E G n1 := mtk_mono h4 (fun q a b => hfr _ _ (by omega) (by omega)) (fun q => hfr _ _ (by omega) (by omega))
        refine cMo_passes hX h h2 hm2 (by simp [isg]) (fun x y m3 b1 b2 => ?_) (fun x => ?_)
        · refine qcl_i (bMo_readOutputs_66 hX (fun z => absurd z (by decide)) (fun _ => bMo_readOutputs_74 hX ?_))
          refine ih (i + 1) (n1 + 1) m3 _ (Or.inr (Or.inl ⟨_, rfl⟩)) (by omega) b2 (by omega) (by rw [b1 _ _ (by omega)]; exact ec) ?_ ?_
          · intro m4 l n4 g1 g2 g3 g4 g5 g6
            refine k1 m4 (v :: l) n4 (by simp [pls, h1, x] at g1 ⊢; simp [g1]) g2 g3 (fun j q a b c => ?_) (by rw [g5, List.length_cons]; congr 1; omega) ?_
            · rw [g4 j q a b (by omega), b1 j q a, hfr j q b (by omega), h3 j q a]
            · intro k w hk
              rcases k with _ | k
              · cases hk
                refine ⟨?_, hv⟩
                rw [g4 _ _ (by omega) (by omega) (by omega), b1 _ _ (by omega)]; exact e203
              · have := g6 k w (by simpa using hk)
                rw [show i + (k + 1) = i + 1 + k by omega]
                exact this
          · intro m4 n4 g1 g2 g3 g4
            refine k0 m4 n4 (by simp [pls, h1, x] at g1 ⊢; simp [g1]) g2 g3 (fun j q a b c => ?_)
            rw [g4 j q a b (by omega), b1 j q a, hfr j q b (by omega), h3 j q a]
        · refine qcl_i (bMo_readOutputs_66 hX (fun _ => bMo_readOutputs_73 hX (bMo_readOutputs_74 hX (bMo_readOutputs_9 hX (Or.inr (Or.inl ⟨_, rfl⟩)) (fun _ => ?_) (fun z => absurd rfl z)))) (fun z => absurd rfl z))
          refine k1 m2 [v] n1 (by simp [pls, h1, x]) h2 hm2 (fun j q a b c => by rw [hfr j q b (by omega), h3 j q a]) ec ?_
          intro k w hk
          rcases k with _ | k
          · cases hk
            exact ⟨e203, hv⟩
          · simp at hk
    · exact qcl_i (bMo_readOutputs_17 hX hw3 (fun z => absurd z (by decide)) (fun z => absurd z (by decide)) (fun z => absurd z (by decide)) (fun z => absurd z (by decide)) (fun z => absurd z (by decide)) (fun z => absurd z (by decide)) (fun z => absurd z (by decide)) (fun _ => k0 m1 n1 (by simp [pls, h1]) h2 h4 (fun j q a b c => h3 j q a)))
end MGR
