section MCN
variable {d : Nat} {P : qE → Prop} {X : qH} {sw : Bool} {o : Int64} {e : List Nat} {N : Nat} {K V G : Nat → Int32} {S E : Nat → Nat} {f : Nat → Int32} {L : Nat} {mb : Nat}
theorem moCond {i n : Nat} {mem : Nat → Nat → Int32} {w3 : Slot} (hX : X.length = 13) (h : qLx f L N K S V E G) (hmb : mb < 15) (hw3 : qfr w3) (hi : i < 6) (hn : n ≤ N) (hm : mtk mem f L S V E G n) (hc : mem 207 mb = qi i) (hb : ∀ q, b01 (mem 210 q))
    (k1 : ∀ m' v w n1 n2, pv K V n = (some v, n1) → (K n1 = 60 ∨ K n1 = 61) → pv K V (n1 + 1) = (some w, n2) → n2 ≤ N → mtk m' f L S V E G n2 → (∀ j q, ¬ (j = 193 ∧ 9 ≤ q ∧ q < 13) → ¬ (j = 208 ∧ q = 6 * mb + i) → ¬ (j = 210 ∧ q = 6 * mb + i) → m' j q = mem j q) → m' 208 (6 * mb + i) = enc v → okv v → okv w → m' 210 (6 * mb + i) = (if K n1 = 60 then 1 else 0) → (∀ q, b01 (m' 210 q)) → QW (d + 1 + 1 + 1 + 1) mMo_readConditions 82 (lMo_readConditions_82 (qi mb) 1 (qi (6 * mb + i))) [.int (enc w), .int (qi (6 * mb + i)), .ref 209] (hpo X m' sw o e) P)
    (k0 : ∀ m' n', ((pv K V n = (none, n')) ∨ (∃ v, pv K V n = (some v, n') ∧ ¬ (K n' = 60 ∨ K n' = 61)) ∨ (∃ v n1, pv K V n = (some v, n1) ∧ (K n1 = 60 ∨ K n1 = 61) ∧ pv K V (n1 + 1) = (none, n'))) → n' ≤ N → mtk m' f L S V E G n' → (∀ j q, ¬ (j = 193 ∧ 9 ≤ q ∧ q < 13) → ¬ (208 ≤ j ∧ j < 211 ∧ q = 6 * mb + i) → m' j q = mem j q) → (∀ q, b01 (m' 210 q)) → P (.inl (some (.int 0)), hpo X m' sw o e)) :
    QW (d + 1 + 1 + 1 + 1) mMo_readConditions 2 (lMo_readConditions_2 (qi mb) 1 w3) [] (hpo X mem sw o e) P := by
  have hmi : inx (qi mb) 15 := qi_inx hmb (by omega)
  have eN : Int32.toNatClampNeg (qi mb) = mb := qi_N (by omega)
  have ei : (6 : Int32) * qi mb + qi i = qi (6 * mb + i) := by rw [q6, qi_add]
  have hin : inx (qi (6 * mb + i)) 90 := qi_inx (by omega) (by omega)
  have eN6 : Int32.toNatClampNeg (qi (6 * mb + i)) = 6 * mb + i := qi_N (by omega)
  refine bMo_readConditions_2 hX hw3 (fun z => absurd z (by decide)) (fun _ => hmi) (fun _ => ?_)
  rw [eN, hc, ei]
  -- behind the first value
  have mid : ∀ (s : Int32) (n1 : Nat) (m1 : Nat → Nat → Int32), n1 ≤ N → mtk m1 f L S V E G n1 → (∀ j q, ¬ (j = 193 ∧ 9 ≤ q ∧ q < 13) → m1 j q = mem j q) → ((s = -1 ∧ pv K V n = (none, n1)) ∨ ∃ v, s = enc v ∧ okv v ∧ pv K V n = (some v, n1)) → QW (d + 1 + 1 + 1 + 1) mMo_readConditions 27 (lMo_readConditions_27 (qi mb) 1 (qi (6 * mb + i))) [.int s, .int (qi (6 * mb + i)), .ref 208] (hpo X m1 sw o e) P := by
    intro s n1 m1 hn1 hm1 hfr1 hs
    refine bMo_readConditions_27 hX hin ?_
    rw [eN6]
    have hfr2 : ∀ j q, ¬ (j = 208 ∧ q = 6 * mb + i) → mup m1 208 (6 * mb + i) s j q = m1 j q := fun j q a => by (repeat (rw [mup_q]; first | rw [if_pos (by omega)] | rw [if_neg (by omega)]))
    have x2 : mup m1 208 (6 * mb + i) s 208 (6 * mb + i) = s := mup_at _ _ _ _
    generalize mup m1 208 (6 * mb + i) s = m2 at hfr2 x2 ⊢
    have hm2 : mtk m2 f L S V E G n1 := mtk_mono hm1 (fun q a b => hfr2 _ _ (by omega)) (fun q => hfr2 _ _ (by omega))
    have low : ∀ c : Int32, b01 c → (c = 1 ↔ K n1 = 60) → QW (d + 1 + 1 + 1 + 1) mMo_readConditions 39 (lMo_readConditions_39 (qi mb) 1 (qi (6 * mb + i))) [.int c, .int (qi (6 * mb + i)), .ref 210] (hpo X m2 sw o e) P := by
      intro c hc01 hc60
      have hfr3 : ∀ j q, ¬ (j = 210 ∧ q = 6 * mb + i) → mup m2 210 (6 * mb + i) c j q = m2 j q := fun j q a => by (repeat (rw [mup_q]; first | rw [if_pos (by omega)] | rw [if_neg (by omega)]))
      have x3 : mup m2 210 (6 * mb + i) c 210 (6 * mb + i) = c := mup_at _ _ _ _
      have hb3 : ∀ q, b01 (mup m2 210 (6 * mb + i) c 210 q) := fun q => by
        by_cases hq : q = 6 * mb + i
        · subst hq; rw [x3]; exact hc01
        · rw [hfr3 _ _ (by omega), hfr2 _ _ (by omega), hfr1 _ _ (by omega)]; exact hb q
      have nar : narrow .boolean (.int c) = .int c := by rcases hc01 with rfl | rfl <;> decide
      refine bMo_readConditions_39 hX hin nar hin (fun z => ?_) (fun z => ?_)
      · rw [eN6, hfr3 _ _ (by omega), x2] at z
        rw [eN6]
        rcases hs with ⟨_, hp⟩ | ⟨v, rfl, hv, hp⟩
        · exact k0 _ n1 (Or.inl hp) hn1 (mtk_mono hm2 (fun q a b => hfr3 _ _ (by omega)) (fun q => hfr3 _ _ (by omega))) (fun j q a b => by rw [hfr3 j q (by omega), hfr2 j q (by omega), hfr1 j q a]) hb3
        · exact absurd z (Int32.not_lt.mpr (enc_ge hv))
      · rw [eN6, hfr3 _ _ (by omega), x2] at z
        rw [eN6]
        rcases hs with ⟨rfl, hp⟩ | ⟨v, rfl, hv, hp⟩
        · exact absurd (by decide) z
        · generalize mup m2 210 (6 * mb + i) c = m3 at hfr3 x3 hb3 ⊢
          have hm3 : mtk m3 f L S V E G n1 := mtk_mono hm2 (fun q a b => hfr3 _ _ (by omega)) (fun q => hfr3 _ _ (by omega))
          have all3 : ∀ j q, ¬ (j = 193 ∧ 9 ≤ q ∧ q < 13) → ¬ (j = 208 ∧ q = 6 * mb + i) → ¬ (j = 210 ∧ q = 6 * mb + i) → m3 j q = mem j q := fun j q a b c' => by rw [hfr3 j q c', hfr2 j q b, hfr1 j q a]
          have go : n1 < N → (K n1 = 60 ∨ K n1 = 61) → QW (d + 1 + 1 + 1 + 1) mMo_readConditions 69 (lMo_readConditions_69 (qi mb) 1 (qi (6 * mb + i))) [] (hpo X m3 sw o e) P := by
            intro hlt hor
            refine bMo_readConditions_69 hX (cMo_nextT hX h hlt hm3 (fun m4 b1 b2 => qcl_v (bMo_readConditions_73 hX (cMo_value hX h (by omega) b2 (fun m5 w n2 c1 c2 c3 c4 => qcl_i ?_) (fun m5 n2 c1 c2 c3 c4 => qcl_i ?_)))))
            · refine k1 m5 v w n1 n2 hp hor c1 c2 c4 (fun j q a b c' => by rw [c3 j q a, b1 j q a, all3 j q a b c']) ?_ hv (pv_ok h (by omega) c1) ?_ (fun q => by rw [c3 _ _ (by omega), b1 _ _ (by omega)]; exact hb3 q)
              · rw [c3 _ _ (by omega), b1 _ _ (by omega), hfr3 _ _ (by omega)]; exact x2
              · rw [c3 _ _ (by omega), b1 _ _ (by omega), x3]
                by_cases hk : K n1 = 60
                · rw [if_pos hk]; exact hc60.mpr hk
                · rw [if_neg hk]; exact hc01.resolve_right (fun y => hk (hc60.mp y))
            · have zz : ¬ (0 : Int32) ≤ mup m5 209 (Int32.toNatClampNeg (qi (6 * mb + i))) (-1) 209 (Int32.toNatClampNeg (qi (6 * mb + i))) := by rw [mup_at]; decide
              refine bMo_readConditions_82 hX hin hin (fun y => absurd y zz) (fun y => absurd y zz) (fun y => absurd y zz) (fun y => absurd y zz) (fun y => absurd y zz) (fun _ => ?_)
              rw [eN6]
              refine k0 _ n2 (Or.inr (Or.inr ⟨v, n1, hp, hor, c1⟩)) c2 (mtk_mono c4 (fun q a b => by (repeat (rw [mup_q]; first | rw [if_pos (by omega)] | rw [if_neg (by omega)]))) (fun q => by (repeat (rw [mup_q]; first | rw [if_pos (by omega)] | rw [if_neg (by omega)])))) (fun j q a b => by (repeat (rw [mup_q]; first | rw [if_pos (by omega)] | rw [if_neg (by omega)])); rw [c3 j q a, b1 j q a, all3 j q a (by omega) (by omega)]) (fun q => by (repeat (rw [mup_q]; first | rw [if_pos (by omega)] | rw [if_neg (by omega)])); rw [c3 _ _ (by omega), b1 _ _ (by omega)]; exact hb3 q)
          refine cMo_isIt hX h hn1 hm3 (by simp [isg]) (fun x y => qcl_i (bMo_readConditions_55 hX (fun _ => go y (Or.inl x)) (fun z' => absurd z' (by decide)))) (fun x => qcl_i (bMo_readConditions_55 hX (fun z' => absurd rfl z') (fun _ => cMo_isIt hX h hn1 hm3 (by simp [isg]) (fun x2 y2 => qcl_i (bMo_readConditions_64 hX (fun _ => go y2 (Or.inr x2)) (fun z' => absurd z' (by decide)))) (fun x2 => qcl_i (bMo_readConditions_64 hX (fun z' => absurd rfl z') (fun _ => ?_))))))
          exact k0 m3 n1 (Or.inr (Or.inl ⟨v, hp, fun y => y.elim x x2⟩)) hn1 hm3 (fun j q a b => all3 j q a (by omega) (by omega)) hb3
    exact cMo_isIt hX h hn1 hm2 (by simp [isg]) (fun x _ => qcl_i (low 1 (Or.inr rfl) ⟨fun _ => x, fun _ => rfl⟩)) (fun x => qcl_i (low 0 (Or.inl rfl) ⟨fun y => absurd y (by decide), fun y => absurd y x⟩))
  exact cMo_value hX h hn hm (fun m1 v n1 h1 h2 h3 h4 => qcl_i (mid _ n1 m1 h2 h4 h3 (Or.inr ⟨v, rfl, pv_ok h hn h1, h1⟩))) (fun m1 n1 h1 h2 h3 h4 => qcl_i (mid _ n1 m1 h2 h4 h3 (Or.inl ⟨rfl, h1⟩)))
theorem moCon (hX : X.length = 13) (h : qLx f L N K S V E G) (hmb : mb < 15) : ∀ (g i n : Nat) (mem : Nat → Nat → Int32) (w3 : Slot), qfr w3 → i + (g + 1) = 6 → mtk mem f L S V E G n → n ≤ N → mem 207 mb = qi i → (∀ q, b01 (mem 210 q)) →
    (∀ m' l n', pcs K V (g + 1) n = (some l, n') → n' ≤ N → mtk m' f L S V E G n' → (∀ j q, ¬ (j = 193 ∧ 9 ≤ q ∧ q < 13) → ¬ (j = 207 ∧ q = mb) → ¬ (208 ≤ j ∧ j < 211 ∧ 6 * mb + i ≤ q ∧ q < 6 * mb + 6) → m' j q = mem j q) → m' 207 mb = qi (i + l.length) → (∀ k c, l[k]? = some c → m' 208 (6 * mb + (i + k)) = enc c.1 ∧ m' 209 (6 * mb + (i + k)) = enc c.2.2 ∧ m' 210 (6 * mb + (i + k)) = c.2.1 ∧ okv c.1 ∧ okv c.2.2) → (∀ q, b01 (m' 210 q)) → P (.inl (some (.int 1)), hpo X m' sw o e)) →
    (∀ m' n', pcs K V (g + 1) n = (none, n') → n' ≤ N → mtk m' f L S V E G n' → (∀ j q, ¬ (j = 193 ∧ 9 ≤ q ∧ q < 13) → ¬ (j = 207 ∧ q = mb) → ¬ (208 ≤ j ∧ j < 211 ∧ 6 * mb + i ≤ q ∧ q < 6 * mb + 6) → m' j q = mem j q) → (∀ q, b01 (m' 210 q)) → P (.inl (some (.int 0)), hpo X m' sw o e)) →
    QW (d + 1 + 1 + 1 + 1) mMo_readConditions 2 (lMo_readConditions_2 (qi mb) 1 w3) [] (hpo X mem sw o e) P := by
  have hmi : inx (qi mb) 15 := qi_inx hmb (by omega)
  have eN : Int32.toNatClampNeg (qi mb) = mb := qi_N (by omega)
  intro g
  induction g with
  | zero =>
    intro i n mem w3 hw3 hi hm hn hc hb k1 k0
    obtain rfl : i = 5 := by omega
    have hin : inx (qi (6 * mb + 5)) 90 := qi_inx (by omega) (by omega)
    have eN6 : Int32.toNatClampNeg (qi (6 * mb + 5)) = 6 * mb + 5 := qi_N (by omega)
    refine moCond hX h hmb hw3 (by omega) hn hm hc hb ?_ ?_
    · intro m1 v w n1 n2 h1 h2 h3 h4 h5 h6 h7 hv hw h9 hb1
      have e207 : m1 207 mb = qi 5 := by rw [h6 _ _ (by omega) (by omega) (by omega)]; exact hc
      refine bMo_readConditions_82 hX hin hin (fun _ => hmi) (fun _ => hmi) (fun _ => hmi) (fun _ _ => ?_) (fun _ z => ?_) (fun z => ?_)
      · rw [eN6, eN, mup_ce (by omega), e207, qi_1]
        refine bMo_readConditions_137 hX (bMo_readConditions_138 hX (bMo_readConditions_2 hX (Or.inr (Or.inl ⟨_, rfl⟩)) (fun _ => ?_) (fun z => absurd rfl z) (fun z => absurd rfl z)))
        refine k1 _ [(v, (if K n1 = 60 then 1 else 0), w)] n2 (by simp [pcs, h1, h2, h3]) h4 (mtk_mono h5 (fun q a b => by (repeat (rw [mup_q]; first | rw [if_pos (by omega)] | rw [if_neg (by omega)]))) (fun q => by (repeat (rw [mup_q]; first | rw [if_pos (by omega)] | rw [if_neg (by omega)])))) (fun j q a b c => by (repeat (rw [mup_q]; first | rw [if_pos (by omega)] | rw [if_neg (by omega)])); exact h6 j q a (by omega) (by omega)) (by (repeat (rw [mup_q]; first | rw [if_pos (by omega)] | rw [if_neg (by omega)])); rfl) ?_ (fun q => by (repeat (rw [mup_q]; first | rw [if_pos (by omega)] | rw [if_neg (by omega)])); exact hb1 q)
        intro k c hk
        rcases k with _ | k
        · cases hk
          exact ⟨by (repeat (rw [mup_q]; first | rw [if_pos (by omega)] | rw [if_neg (by omega)])); exact h7, by (repeat (rw [mup_q]; first | rw [if_pos (by omega)] | rw [if_neg (by omega)])), by (repeat (rw [mup_q]; first | rw [if_pos (by omega)] | rw [if_neg (by omega)])); exact h9, hv, hw⟩
        · simp at hk
      · exfalso
        apply z
        rw [eN6, eN, mup_at, mup_ce (by omega), e207]
        decide
      · rw [eN6, mup_at] at z
        exact absurd (enc_ge hw) z
    · intro m' n' h1 h2 h3 h4 hb1
      refine k0 m' n' ?_ h2 h3 (fun j q a b c => h4 j q a (by omega)) hb1
      rcases h1 with h1 | ⟨v, h1, h1'⟩ | ⟨v, n1, h1, h1', h1''⟩
      · simp [pcs, h1]
      · simp only [pcs, h1]; rw [if_neg h1']
      · simp only [pcs, h1]; rw [if_pos h1', h1'']
  | succ g ih =>
    intro i n mem w3 hw3 hi hm hn hc hb k1 k0
    have hin : inx (qi (6 * mb + i)) 90 := qi_inx (by omega) (by omega)
    have eN6 : Int32.toNatClampNeg (qi (6 * mb + i)) = 6 * mb + i := qi_N (by omega)
    refine moCond hX h hmb hw3 (by omega) hn hm hc hb ?_ ?_
    · intro m1 v w n1 n2 h1 h2 h3 h4 h5 h6 h7 hv hw h9 hb1
      have e207 : m1 207 mb = qi i := by rw [h6 _ _ (by omega) (by omega) (by omega)]; exact hc
      have ec : mup (mup m1 209 (6 * mb + i) (enc w)) 207 mb (mup m1 209 (6 * mb + i) (enc w) 207 mb + 1) 207 mb = qi (i + 1) := by rw [mup_at, mup_ce (by omega), e207, qi_1]
      have hfr : ∀ j q, ¬ (j = 207 ∧ q = mb) → ¬ (j = 209 ∧ q = 6 * mb + i) → mup (mup m1 209 (6 * mb + i) (enc w)) 207 mb (mup m1 209 (6 * mb + i) (enc w) 207 mb + 1) j q = m1 j q := fun j q a b => by (repeat (rw [mup_q]; first | rw [if_pos (by omega)] | rw [if_neg (by omega)]))
      have e209 : mup (mup m1 209 (6 * mb + i) (enc w)) 207 mb (mup m1 209 (6 * mb + i) (enc w) 207 mb + 1) 209 (6 * mb + i) = enc w := by (repeat (rw [mup_q]; first | rw [if_pos (by omega)] | rw [if_neg (by omega)]))
      refine bMo_readConditions_82 hX hin hin (fun _ => hmi) (fun _ => hmi) (fun _ => hmi) (fun _ z => ?_) (fun _ _ => ?_) (fun z => ?_)
      · exfalso
        rw [eN6, eN, ec] at z
        have := (qi_le (a := 6) (by omega) (by omega)).mp z
        omega
      · rw [eN6, eN]
        generalize mup (mup m1 209 (6 * mb + i) (enc w)) 207 mb (mup m1 209 (6 * mb + i) (enc w) 207 mb + 1) = m2 at ec hfr e209 ⊢
        have hm2 : mtk m2 f L S V E G n2 := mtk_mono h5 (fun q a b => hfr _ _ (by omega) (by omega)) (fun q => hfr _ _ (by omega) (by omega))
        have all2 : ∀ j q, ¬ (j = 193 ∧ 9 ≤ q ∧ q < 13) → ¬ (j = 207 ∧ q = mb) → ¬ (208 ≤ j ∧ j < 211 ∧ q = 6 * mb + i) → m2 j q = mem j q := fun j q a b c => by rw [hfr j q b (by omega), h6 j q a (by omega) (by omega)]
        have hb2 : ∀ q, b01 (m2 210 q) := fun q => by rw [hfr _ _ (by omega) (by omega)]; exact hb1 q
        have fin : ¬ K n2 = 10 → QW (d + 1 + 1 + 1 + 1) mMo_readConditions 130 (lMo_readConditions_130 (qi mb) 1 (qi (6 * mb + i))) [.int 0] (hpo X m2 sw o e) P := by
          intro x
          refine bMo_readConditions_130 hX (fun _ => bMo_readConditions_137 hX (bMo_readConditions_138 hX (bMo_readConditions_2 hX (Or.inr (Or.inl ⟨_, rfl⟩)) (fun _ => ?_) (fun z => absurd rfl z) (fun z => absurd rfl z)))) (fun z => absurd rfl z)
          refine k1 m2 [(v, (if K n1 = 60 then 1 else 0), w)] n2 (by rw [pcs]; simp only [h1, h3]; rw [if_pos h2, if_neg (fun z => x z.2)]) h4 hm2 (fun j q a b c => all2 j q a b (by omega)) ec ?_ hb2
          intro k c hk
          rcases k with _ | k
          · cases hk
            exact ⟨by rw [hfr _ _ (by omega) (by omega)]; exact h7, e209, by rw [hfr _ _ (by omega) (by omega)]; exact h9, hv, hw⟩
          · simp at hk
        have go : K n2 = 10 → ∀ m3, (∀ j q, ¬ (j = 193 ∧ 9 ≤ q ∧ q < 13) → m3 j q = m2 j q) → mtk m3 f L S V E G (n2 + 1) → n2 < N → QW (d + 1 + 1 + 1 + 1) mMo_readConditions 130 (lMo_readConditions_130 (qi mb) 1 (qi (6 * mb + i))) [.int 1] (hpo X m3 sw o e) P := by
          intro x m3 b1 b2 hlt
          refine bMo_readConditions_130 hX (fun z => absurd z (by decide)) (fun _ => bMo_readConditions_138 hX ?_)
          refine ih (i + 1) (n2 + 1) m3 _ (Or.inr (Or.inl ⟨_, rfl⟩)) (by omega) b2 (by omega) (by rw [b1 _ _ (by omega)]; exact ec) (fun q => by rw [b1 _ _ (by omega)]; exact hb2 q) ?_ ?_
          · intro m4 l n4 g1 g2 g3 g4 g5 g6 g7
            refine k1 m4 ((v, (if K n1 = 60 then 1 else 0), w) :: l) n4 (by rw [pcs]; simp only [h1, h3]; rw [if_pos h2, if_pos ⟨by omega, x⟩, g1]) g2 g3 (fun j q a b c => by rw [g4 j q a b (by omega), b1 j q a, all2 j q a b (by omega)]) (by rw [g5, List.length_cons]; congr 1; omega) ?_ g7
            intro k c hk
            rcases k with _ | k
            · cases hk
              refine ⟨?_, ?_, ?_, hv, hw⟩
              · rw [g4 _ _ (by omega) (by omega) (by omega), b1 _ _ (by omega), hfr _ _ (by omega) (by omega)]; exact h7
              · rw [g4 _ _ (by omega) (by omega) (by omega), b1 _ _ (by omega)]; exact e209
              · rw [g4 _ _ (by omega) (by omega) (by omega), b1 _ _ (by omega), hfr _ _ (by omega) (by omega)]; exact h9
            · have := g6 k c (by simpa using hk)
              rw [show i + (k + 1) = i + 1 + k by omega]
              exact this
          · intro m4 n4 g1 g2 g3 g4 g5
            refine k0 m4 n4 (by rw [pcs]; simp only [h1, h3]; rw [if_pos h2, if_pos ⟨by omega, x⟩, g1]) g2 g3 (fun j q a b c => by rw [g4 j q a b (by omega), b1 j q a, all2 j q a b (by omega)]) g5
        refine cMo_w_and hX h h4 hm2 (fun x y => qcl_i (bMo_readConditions_127 hX (cMo_passW hX h hm2 (fun _ => ⟨y, fun m3 b1 b2 => qcl_i (go x m3 b1 b2 y)⟩) (fun z => absurd z (by decide)) (Or.inr rfl)))) (fun x => qcl_i (bMo_readConditions_127 hX (cMo_passW hX h hm2 (fun z => absurd z (by decide)) (fun _ => qcl_i (fin x)) (Or.inl rfl))))
      · rw [eN6, mup_at] at z
        exact absurd (enc_ge hw) z
    · intro m' n' h1 h2 h3 h4 hb1
      refine k0 m' n' ?_ h2 h3 (fun j q a b c => h4 j q a (by omega)) hb1
      rcases h1 with h1 | ⟨v, h1, h1'⟩ | ⟨v, n1, h1, h1', h1''⟩
      · rw [pcs]; simp only [h1]
      · rw [pcs]; simp only [h1]; rw [if_neg h1']
      · rw [pcs]; simp only [h1]; rw [if_pos h1', h1'']
end MCN
