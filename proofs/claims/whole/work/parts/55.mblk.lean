def mbl (m : Nat → Nat → Int32) (mb : Nat) (b : qBk) : Prop := m 201 mb = b.1 ∧ m 202 mb = qi b.2.1.length ∧ (∀ k v, b.2.1[k]? = some v → m 203 (3 * mb + k) = enc v ∧ okv v) ∧ msr m mb b.2.2.1 ∧ m 207 mb = qi b.2.2.2.length ∧ (∀ k c, b.2.2.2[k]? = some c → m 208 (6 * mb + k) = enc c.1 ∧ m 209 (6 * mb + k) = enc c.2.2 ∧ m 210 (6 * mb + k) = c.2.1 ∧ okv c.1 ∧ okv c.2.2)
/-- the cells that reading block mb may change -/
def mfr (mb : Nat) (m m' : Nat → Nat → Int32) : Prop := ∀ j q, ¬ (j = 193 ∧ 9 ≤ q ∧ q < 13) → ¬ ((j = 201 ∨ j = 202 ∨ j = 204 ∨ j = 207) ∧ q = mb) → ¬ (j = 203 ∧ 3 * mb ≤ q ∧ q < 3 * mb + 3) → ¬ ((j = 205 ∨ j = 206) ∧ 4 * mb ≤ q ∧ q < 4 * mb + 4) → ¬ (208 ≤ j ∧ j < 211 ∧ 6 * mb ≤ q ∧ q < 6 * mb + 6) → m' j q = m j q
theorem pls_len {K V : Nat → Int32} : ∀ g n l n', pls K V g n = (some l, n') → l.length ≤ g := by
  intro g
  induction g with
  | zero => intro n l n' h; simp [pls] at h; rw [h.1]; simp
  | succ g ih =>
    intro n l n' h
    rw [pls] at h
    split at h
    · simp at h
    · split at h
      · split at h
        · simp at h
        · rename_i hx
          simp at h
          rw [← h.1]
          have := ih _ _ _ hx
          simp; omega
      · simp at h
        rw [← h.1]; simp
theorem psr_len {c : Int32} {K V : Nat → Int32} : ∀ g n acc l n', psr c K V g n acc = (some l, n') → l.length ≤ acc.length + g := by
  intro g
  induction g with
  | zero => intro n acc l n' h; simp [psr] at h; rw [← h.1]; simp
  | succ g ih =>
    intro n acc l n' h
    rw [psr] at h
    split at h
    · split at h
      · split at h
        · have := ih _ _ _ _ h
          simp at this; omega
        · simp at h
          rw [← h.1]; simp
      · simp at h
    · simp at h
theorem pcs_len {K V : Nat → Int32} : ∀ g n l n', pcs K V g n = (some l, n') → l.length ≤ g := by
  intro g
  induction g with
  | zero => intro n l n' h; simp [pcs] at h; rw [h.1]; simp
  | succ g ih =>
    intro n l n' h
    rw [pcs] at h
    split at h
    · simp at h
    · split at h
      · split at h
        · simp at h
        · split at h
          · split at h
            · simp at h
            · rename_i hx
              simp at h
              rw [← h.1]
              have := ih _ _ _ hx
              simp; omega
          · simp at h
            rw [← h.1]; simp
      · simp at h
theorem pbl_len {c : Int32} {K V : Nat → Int32} {n n' : Nat} {b : qBk} (h : pbl c K V n = (some b, n')) : b.2.1.length ≤ 3 ∧ b.2.2.1.length ≤ 4 ∧ b.2.2.2.length ≤ 6 := by
  unfold pbl at h
  generalize (if K n = 6 then n + 1 else n) = n0 at h
  generalize (if K n = 6 then (1 : Int32) else 0) = s0 at h
  split at h
  · split at h
    · simp at h
    · rename_i h1
      have l1 := pls_len _ _ _ _ h1
      split at h
      · split at h
        · simp at h
        · rename_i h2
          have l2 := psr_len _ _ _ _ _ h2
          simp at l2
          split at h
          · split at h
            · simp at h
            · rename_i h3
              have l3 := pcs_len _ _ _ _ h3
              simp at h
              rw [← h.1]
              exact ⟨l1, l2, l3⟩
          · simp at h
            rw [← h.1]
            exact ⟨l1, l2, by simp⟩
      · simp at h
  · simp at h
section MBK
variable {d : Nat} {P : qE → Prop} {X : qH} {sw : Bool} {o : Int64} {e : List Nat} {N : Nat} {K V G : Nat → Int32} {S E : Nat → Nat} {f : Nat → Int32} {L : Nat} {mb : Nat}
theorem cMo_readBlock {cnt n : Nat} {mem : Nat → Nat → Int32} (hX : X.length = 13) (h : qLx f L N K S V E G) (hmb : mb < 15) (hc4 : cnt ≤ 4) (hn : n ≤ N) (hm : mtk mem f L S V E G n) (hc : mem 193 1 = qi cnt) (hb : ∀ q, b01 (mem 201 q) ∧ b01 (mem 210 q))
    (k1 : ∀ m' b n', pbl (qi cnt) K V n = (some b, n') → bhd K n' → n' ≤ N → mtk m' f L S V E G n' → mfr mb mem m' → mbl m' mb b → (∀ q, b01 (m' 201 q) ∧ b01 (m' 210 q)) → P (.inl (some (.int 1)), hpo X m' sw o e))
    (k0 : ∀ m' n', ((pbl (qi cnt) K V n = (none, n')) ∨ (∃ b, pbl (qi cnt) K V n = (some b, n') ∧ ¬ bhd K n')) → n' ≤ N → mtk m' f L S V E G n' → mfr mb mem m' → (∀ q, b01 (m' 201 q) ∧ b01 (m' 210 q)) → P (.inl (some (.int 0)), hpo X m' sw o e)) :
    QW (d + 1 + 1 + 1 + 1 + 1) mMo_readBlock 0 (qen 2 [.ref 193, .int (qi mb)]) [] (hpo X mem sw o e) P := by
  have hmi : inx (qi mb) 15 := qi_inx hmb (by omega)
  have eN : Int32.toNatClampNeg (qi mb) = mb := qi_N (by omega)
  refine bMo_readBlock_0 hX hmi ?_
  rw [eN]
  have hfr0 : ∀ j q, ¬ (j = 207 ∧ q = mb) → mup mem 207 mb 0 j q = mem j q := fun j q a => by (repeat (rw [mup_q]; first | rw [if_pos (by omega)] | rw [if_neg (by omega)]))
  have x0 : mup mem 207 mb 0 207 mb = 0 := mup_at _ _ _ _
  generalize mup mem 207 mb 0 = m0 at hfr0 x0 ⊢
  have hm0 : mtk m0 f L S V E G n := mtk_mono hm (fun q a b => hfr0 _ _ (by omega)) (fun q => hfr0 _ _ (by omega))
  -- the end of a block
  have tail : ∀ m4 b n', pbl (qi cnt) K V n = (some b, n') → n' ≤ N → mtk m4 f L S V E G n' → mfr mb mem m4 → mbl m4 mb b → (∀ q, b01 (m4 201 q) ∧ b01 (m4 210 q)) → QW (d + 1 + 1 + 1 + 1 + 1) mMo_readBlock 105 (lMo_readBlock_105 (qi mb)) [] (hpo X m4 sw o e) P := by
    intro m4 b n' p1 p2 p3 p4 p5 p6
    have h0 := lx_end h p2
    have g9 : m4 193 9 = G n' := p3.2.2.2.2.1
    refine bMo_readBlock_105 hX (fun z => bMo_readBlock_139 hX (k1 m4 b n' p1 (Or.inl (h0.1.mpr (h0.2.mp (g9.symm.trans z)))) p2 p3 p4 p5 p6)) (fun z => ?_)
    have hk0 : ¬ K n' = 0 := fun y => z (g9.trans (h0.2.mpr (h0.1.mp y)))
    refine cMo_isIt hX h p2 p3 (by simp [isg]) (fun x _ => qcl_i (bMo_readBlock_118 hX (fun _ => bMo_readBlock_139 hX (k1 m4 b n' p1 (Or.inr (Or.inl x)) p2 p3 p4 p5 p6)) (fun y => absurd y (by decide)))) (fun x1 => qcl_i (bMo_readBlock_118 hX (fun y => absurd rfl y) (fun _ => ?_)))
    refine cMo_isIt hX h p2 p3 (by simp [isg]) (fun x _ => qcl_i (bMo_readBlock_127 hX (fun _ => bMo_readBlock_139 hX (k1 m4 b n' p1 (Or.inr (Or.inr (Or.inl x))) p2 p3 p4 p5 p6)) (fun y => absurd y (by decide)))) (fun x2 => qcl_i (bMo_readBlock_127 hX (fun y => absurd rfl y) (fun _ => ?_)))
    refine cMo_isIt hX h p2 p3 (by simp [isg]) (fun x _ => qcl_i (bMo_readBlock_136 hX (fun y => absurd y (by decide)) (fun _ => bMo_readBlock_139 hX (k1 m4 b n' p1 (Or.inr (Or.inr (Or.inr x))) p2 p3 p4 p5 p6)))) (fun x3 => qcl_i (bMo_readBlock_136 hX (fun _ => k0 m4 n' (Or.inr ⟨b, p1, ?_⟩) p2 p3 p4 p6) (fun y => absurd rfl y)))
    rintro (y | y | y | y)
    · exact hk0 y
    · exact x1 y
    · exact x2 y
    · exact x3 y
  -- behind 'set'
  have main : ∀ (s : Int32) (n0 : Nat) (m : Nat → Nat → Int32), (if K n = 6 then (1 : Int32) else 0) = s → (if K n = 6 then n + 1 else n) = n0 → b01 s → n0 ≤ N → mtk m f L S V E G n0 → (∀ j q, ¬ (j = 193 ∧ 9 ≤ q ∧ q < 13) → m j q = m0 j q) → QW (d + 1 + 1 + 1 + 1 + 1) mMo_readBlock 27 (lMo_readBlock_27 (qi mb)) [.int s, .int (qi mb), .ref 201] (hpo X m sw o e) P := by
    intro s n0 m hs hn0' hs01 hN0 hmm hfm
    refine bMo_readBlock_27 hX hmi (by rcases hs01 with rfl | rfl <;> decide) ?_
    rw [eN]
    have hfr1 : ∀ j q, ¬ (j = 201 ∧ q = mb) → mup m 201 mb s j q = m j q := fun j q a => by (repeat (rw [mup_q]; first | rw [if_pos (by omega)] | rw [if_neg (by omega)]))
    have x1 : mup m 201 mb s 201 mb = s := mup_at _ _ _ _
    generalize mup m 201 mb s = m1 at hfr1 x1 ⊢
    have hm1 : mtk m1 f L S V E G n0 := mtk_mono hmm (fun q a b => hfr1 _ _ (by omega)) (fun q => hfr1 _ _ (by omega))
    have all1 : ∀ j q, ¬ (j = 193 ∧ 9 ≤ q ∧ q < 13) → ¬ (j = 201 ∧ q = mb) → ¬ (j = 207 ∧ q = mb) → m1 j q = mem j q := fun j q a b c => by rw [hfr1 j q b, hfm j q a, hfr0 j q c]
    have hb1 : ∀ q, b01 (m1 201 q) ∧ b01 (m1 210 q) := fun q => by
      refine ⟨?_, ?_⟩
      · by_cases hq : q = mb
        · subst hq; rw [x1]; exact hs01
        · rw [all1 _ _ (by omega) (by omega) (by omega)]; exact (hb q).1
      · rw [all1 _ _ (by omega) (by omega) (by omega)]; exact (hb q).2
    have x207 : m1 207 mb = 0 := by rw [hfr1 _ _ (by omega), hfm _ _ (by omega)]; exact x0
    have fr1 : mfr mb mem m1 := fun j q a b c d' e' => all1 j q a (by omega) (by omega)
    have no : ¬ K n0 = 7 → QW (d + 1 + 1 + 1 + 1 + 1) mMo_readBlock 43 (lMo_readBlock_43 (qi mb)) [.int 0] (hpo X m1 sw o e) P := fun y => by
      refine bMo_readBlock_43 hX (fun _ => k0 m1 n0 (Or.inl ?_) hN0 hm1 fr1 hb1) (fun z => absurd rfl z)
      rw [pbl, hn0', if_neg y]
    have go : K n0 = 7 → n0 < N → ∀ m2, (∀ j q, ¬ (j = 193 ∧ 9 ≤ q ∧ q < 13) → m2 j q = m1 j q) → mtk m2 f L S V E G (n0 + 1) → QW (d + 1 + 1 + 1 + 1 + 1) mMo_readBlock 43 (lMo_readBlock_43 (qi mb)) [.int 1] (hpo X m2 sw o e) P := by
      intro hk7 hlt m2 b1 b2
      refine bMo_readBlock_43 hX (fun z => absurd z (by decide)) (fun _ => bMo_readOutputs_0 hX hmi ?_)
      rw [eN]
      have fr3 : ∀ j q, ¬ (j = 202 ∧ q = mb) → mup m2 202 mb 0 j q = m2 j q := fun j q a => by (repeat (rw [mup_q]; first | rw [if_pos (by omega)] | rw [if_neg (by omega)]))
      refine moOut hX h hmb 2 0 (n0 + 1) _ .unset (Or.inl rfl) (by omega) (mtk_mono b2 (fun q a b => fr3 _ _ (by omega)) (fun q => fr3 _ _ (by omega))) (by omega) (by rw [mup_at]; rfl) ?_ ?_
      · intro m3 lo n3 g1 g2 g3 g4 g5 g6
        have all3 : ∀ j q, ¬ (j = 193 ∧ 9 ≤ q ∧ q < 13) → ¬ (j = 202 ∧ q = mb) → ¬ (j = 203 ∧ 3 * mb ≤ q ∧ q < 3 * mb + 3) → m3 j q = m1 j q := fun j q a b c => by rw [g4 j q a b (by omega), fr3 j q b, b1 j q a]
        have hb3 : ∀ q, b01 (m3 201 q) ∧ b01 (m3 210 q) := fun q => by
          rw [all3 _ _ (by omega) (by omega) (by omega), all3 _ _ (by omega) (by omega) (by omega)]; exact hb1 q
        have lo3 := pls_len _ _ _ _ g1
        refine qcl_i (bMo_readBlock_51 hX (fun _ => ?_) (fun z => absurd z (by decide)))
        have no2 : ¬ K n3 = 8 → QW (d + 1 + 1 + 1 + 1 + 1) mMo_readBlock 71 (lMo_readBlock_71 (qi mb)) [.int 0] (hpo X m3 sw o e) P := fun y => by
          refine bMo_readBlock_71 hX (fun _ => k0 m3 n3 (Or.inl ?_) g2 g3 (fun j q a b c d' e' => by rw [all3 j q a (by omega) c, all1 j q a (by omega) (by omega)]) hb3) (fun z => absurd rfl z)
          rw [pbl, hn0', if_pos hk7, g1]; simp only; rw [if_neg y]
        have go2 : K n3 = 8 → n3 < N → ∀ m4, (∀ j q, ¬ (j = 193 ∧ 9 ≤ q ∧ q < 13) → m4 j q = m3 j q) → mtk m4 f L S V E G (n3 + 1) → QW (d + 1 + 1 + 1 + 1 + 1) mMo_readBlock 71 (lMo_readBlock_71 (qi mb)) [.int 1] (hpo X m4 sw o e) P := by
          intro hk8 hlt3 m4 c1 c2
          refine bMo_readBlock_71 hX (fun z => absurd z (by decide)) (fun _ => bMo_readSources_0 hX hmi ?_)
          rw [eN]
          have fr5 : ∀ j q, ¬ (j = 204 ∧ q = mb) → mup m4 204 mb 0 j q = m4 j q := fun j q a => by (repeat (rw [mup_q]; first | rw [if_pos (by omega)] | rw [if_neg (by omega)]))
          refine moSrc (d := d + 1) (cnt := cnt) hX h hmb hc4 3 (n3 + 1) [] _ rfl (mtk_mono c2 (fun q a b => fr5 _ _ (by omega)) (fun q => fr5 _ _ (by omega))) (by omega) ⟨by rw [mup_at]; rfl, fun k v hk => by simp at hk⟩ ?_ ?_ ?_
          · rw [fr5 _ _ (by omega), c1 _ _ (by omega), all3 _ _ (by omega) (by omega) (by omega), all1 _ _ (by omega) (by omega) (by omega)]; exact hc
          · intro m5 ls n5 f1 f2 f3 f4 f5
            have all5 : ∀ j q, ¬ (j = 193 ∧ 9 ≤ q ∧ q < 13) → ¬ (j = 204 ∧ q = mb) → ¬ (205 ≤ j ∧ j < 207 ∧ 4 * mb ≤ q ∧ q < 4 * mb + 4) → m5 j q = m3 j q := fun j q a b c => by rw [f4 j q a b c, fr5 j q b, c1 j q a]
            have hb5 : ∀ q, b01 (m5 201 q) ∧ b01 (m5 210 q) := fun q => by
              rw [all5 _ _ (by omega) (by omega) (by omega), all5 _ _ (by omega) (by omega) (by omega)]; exact hb3 q
            have fr5' : mfr mb mem m5 := fun j q a b c d' e' => by rw [all5 j q a (by omega) (by omega), all3 j q a (by omega) c, all1 j q a (by omega) (by omega)]
            have x207' : m5 207 mb = 0 := by rw [all5 _ _ (by omega) (by omega) (by omega), all3 _ _ (by omega) (by omega) (by omega)]; exact x207
            refine qcl_i (bMo_readBlock_79 hX (fun _ => ?_) (fun z => absurd z (by decide)))
            have no3 : ¬ K n5 = 9 → QW (d + 1 + 1 + 1 + 1 + 1) mMo_readBlock 92 (lMo_readBlock_92 (qi mb)) [.int 0] (hpo X m5 sw o e) P := fun y => by
              refine bMo_readBlock_92 hX (fun _ => tail m5 (s, lo, ls, []) n5 ?_ f2 f3 fr5' ⟨?_, ?_, ?_, f5, x207', fun k c hk => by simp at hk⟩ hb5) (fun z => absurd rfl z)
              · rw [pbl, hn0', if_pos hk7, g1, hs]; simp only; rw [if_pos hk8, f1]; simp only; rw [if_neg y]
              · rw [all5 _ _ (by omega) (by omega) (by omega), all3 _ _ (by omega) (by omega) (by omega)]; exact x1
              · rw [all5 _ _ (by omega) (by omega) (by omega), g5]; simp
              · intro k v hk
                have hl := (List.getElem?_eq_some_iff.mp hk).1
                have := g6 k v hk
                rw [Nat.zero_add] at this
                rw [all5 _ _ (by omega) (by omega) (by omega)]
                exact this
            have go3 : K n5 = 9 → n5 < N → ∀ m6, (∀ j q, ¬ (j = 193 ∧ 9 ≤ q ∧ q < 13) → m6 j q = m5 j q) → mtk m6 f L S V E G (n5 + 1) → QW (d + 1 + 1 + 1 + 1 + 1) mMo_readBlock 92 (lMo_readBlock_92 (qi mb)) [.int 1] (hpo X m6 sw o e) P := by
              intro hk9 hlt5 m6 d1 d2
              refine bMo_readBlock_92 hX (fun z => absurd z (by decide)) (fun _ => bMo_readConditions_0 hX ?_)
              refine moCon hX h hmb 5 0 (n5 + 1) m6 .unset (Or.inl rfl) (by omega) d2 (by omega) (by rw [d1 _ _ (by omega)]; exact x207') (fun q => by rw [d1 _ _ (by omega)]; exact (hb5 q).2) ?_ ?_
              · intro m7 lc n7 e1 e2 e3 e4 e5 e6 e7
                have all7 : ∀ j q, ¬ (j = 193 ∧ 9 ≤ q ∧ q < 13) → ¬ (j = 207 ∧ q = mb) → ¬ (208 ≤ j ∧ j < 211 ∧ 6 * mb ≤ q ∧ q < 6 * mb + 6) → m7 j q = m5 j q := fun j q a b c => by rw [e4 j q a b (by omega), d1 j q a]
                refine qcl_i (bMo_readBlock_100 hX (fun _ => tail m7 (s, lo, ls, lc) n7 ?_ e2 e3 (fun j q a b c d' e' => by rw [all7 j q a (by omega) e', fr5' j q a b c d' e']) ⟨?_, ?_, ?_, msr_mono f5 (all7 _ _ (by omega) (by omega) (by omega)) (fun q _ _ => ⟨all7 _ _ (by omega) (by omega) (by omega), all7 _ _ (by omega) (by omega) (by omega)⟩), ?_, ?_⟩ (fun q => ⟨by rw [all7 _ _ (by omega) (by omega) (by omega)]; exact (hb5 q).1, e7 q⟩)) (fun z => absurd z (by decide)))
                · rw [pbl, hn0', if_pos hk7, g1, hs]; simp only; rw [if_pos hk8, f1]; simp only; rw [if_pos hk9, e1]
                · rw [all7 _ _ (by omega) (by omega) (by omega), all5 _ _ (by omega) (by omega) (by omega), all3 _ _ (by omega) (by omega) (by omega)]; exact x1
                · rw [all7 _ _ (by omega) (by omega) (by omega), all5 _ _ (by omega) (by omega) (by omega), g5]; simp
                · intro k v hk
                  have hl := (List.getElem?_eq_some_iff.mp hk).1
                  have := g6 k v hk
                  rw [Nat.zero_add] at this
                  rw [all7 _ _ (by omega) (by omega) (by omega), all5 _ _ (by omega) (by omega) (by omega)]
                  exact this
                · rw [e5]; simp
                · intro k c hk
                  have := e6 k c hk
                  rw [Nat.zero_add] at this
                  exact this
              · intro m7 n7 e1 e2 e3 e4 e5
                refine qcl_i (bMo_readBlock_100 hX (fun z => absurd rfl z) (fun _ => k0 m7 n7 (Or.inl ?_) e2 e3 (fun j q a b c d' e' => by rw [e4 j q a (by omega) (by omega), d1 j q a, fr5' j q a b c d' e']) (fun q => ⟨by rw [e4 _ _ (by omega) (by omega) (by omega), d1 _ _ (by omega)]; exact (hb5 q).1, e5 q⟩)))
                rw [pbl, hn0', if_pos hk7, g1]; simp only; rw [if_pos hk8, f1]; simp only; rw [if_pos hk9, e1]
            exact cMo_w_where hX h f2 f3 (fun x y => qcl_i (bMo_readBlock_89 hX (cMo_passW (d := d + 2) hX h f3 (fun _ => ⟨y, fun m6 d1 d2 => qcl_i (go3 x y m6 d1 d2)⟩) (fun z => absurd z (by decide)) (Or.inr rfl)))) (fun x => qcl_i (bMo_readBlock_89 hX (cMo_passW (d := d + 2) hX h f3 (fun z => absurd z (by decide)) (fun _ => qcl_i (no3 x)) (Or.inl rfl))))
          · intro m5 n5 f1 f2 f3 f4
            refine qcl_i (bMo_readBlock_79 hX (fun z => absurd rfl z) (fun _ => k0 m5 n5 (Or.inl ?_) f2 f3 (fun j q a b c d' e' => by rw [f4 j q a (by omega) (by omega), fr5 j q (by omega), c1 j q a, all3 j q a (by omega) c, all1 j q a (by omega) (by omega)]) (fun q => ?_)))
            · rw [pbl, hn0', if_pos hk7, g1]; simp only; rw [if_pos hk8, f1]
            · rw [f4 _ _ (by omega) (by omega) (by omega), f4 _ _ (by omega) (by omega) (by omega), fr5 _ _ (by omega), fr5 _ _ (by omega), c1 _ _ (by omega), c1 _ _ (by omega)]; exact hb3 q
        exact cMo_w_of hX h g2 g3 (fun x y => qcl_i (bMo_readBlock_68 hX (cMo_passW (d := d + 2) hX h g3 (fun _ => ⟨y, fun m4 c1 c2 => qcl_i (go2 x y m4 c1 c2)⟩) (fun z => absurd z (by decide)) (Or.inr rfl)))) (fun x => qcl_i (bMo_readBlock_68 hX (cMo_passW (d := d + 2) hX h g3 (fun z => absurd z (by decide)) (fun _ => qcl_i (no2 x)) (Or.inl rfl))))
      · intro m3 n3 g1 g2 g3 g4
        refine qcl_i (bMo_readBlock_51 hX (fun z => absurd rfl z) (fun _ => k0 m3 n3 (Or.inl ?_) g2 g3 (fun j q a b c d' e' => by rw [g4 j q a (by omega) (by omega), fr3 j q (by omega), b1 j q a, all1 j q a (by omega) (by omega)]) (fun q => ?_)))
        · rw [pbl, hn0', if_pos hk7, g1]
        · rw [g4 _ _ (by omega) (by omega) (by omega), g4 _ _ (by omega) (by omega) (by omega), fr3 _ _ (by omega), fr3 _ _ (by omega), b1 _ _ (by omega), b1 _ _ (by omega)]; exact hb1 q
    exact cMo_w_out hX h hN0 hm1 (fun x y => qcl_i (bMo_readBlock_40 hX (cMo_passW (d := d + 2) hX h hm1 (fun _ => ⟨y, fun m2 b1 b2 => qcl_i (go x y m2 b1 b2)⟩) (fun z => absurd z (by decide)) (Or.inr rfl)))) (fun x => qcl_i (bMo_readBlock_40 hX (cMo_passW (d := d + 2) hX h hm1 (fun z => absurd z (by decide)) (fun _ => qcl_i (no x)) (Or.inl rfl))))
  refine cMo_w_set hX h hn hm0 (fun x y => qcl_i (bMo_readBlock_24 hX (cMo_passW (d := d + 2) hX h hm0 (fun _ => ⟨y, fun m b1 b2 => qcl_i ?_⟩) (fun z => absurd z (by decide)) (Or.inr rfl)))) (fun x => qcl_i (bMo_readBlock_24 hX (cMo_passW (d := d + 2) hX h hm0 (fun z => absurd z (by decide)) (fun _ => qcl_i ?_) (Or.inl rfl))))
  · exact main 1 (n + 1) m (if_pos x) (if_pos x) (Or.inr rfl) (by omega) b2 b1
  · exact main 0 n m0 (if_neg x) (if_neg x) (Or.inl rfl) hn hm0 (fun j q _ => rfl)
end MBK
