/-- a block that the reference has read and resolved -/
def mbq (m : Nat → Nat → Int32) (mb : Nat) (b : qBk) (col : Nat → Nat) : Prop := m 201 mb = b.1 ∧ m 202 mb = qi b.2.1.length ∧ m 204 mb = qi b.2.2.1.length ∧ (∀ k v, b.2.2.1[k]? = some v → m 205 (4 * mb + k) = v.1) ∧ m 207 mb = qi b.2.2.2.length ∧ (∀ k v, b.2.1[k]? = some v → rok b.2.2.1 col v (m 203 (3 * mb + k)) ∧ okv v) ∧ (∀ k c, b.2.2.2[k]? = some c → rok b.2.2.1 col c.1 (m 208 (6 * mb + k)) ∧ rok b.2.2.1 col c.2.2 (m 209 (6 * mb + k)) ∧ m 210 (6 * mb + k) = c.2.1 ∧ okv c.1 ∧ okv c.2.2)
/-- the cells that reading the blocks from mb on may change -/
def mfg (mb : Nat) (m m' : Nat → Nat → Int32) : Prop := ∀ j q, ¬ (j = 193 ∧ 9 ≤ q ∧ q < 13) → ¬ (j = 199 ∧ q = 4) → ¬ (j = 200 ∧ mb ≤ q + 4) → ¬ ((j = 201 ∨ j = 202 ∨ j = 204 ∨ j = 207) ∧ mb ≤ q) → ¬ (j = 203 ∧ 3 * mb ≤ q) → ¬ ((j = 205 ∨ j = 206) ∧ 4 * mb ≤ q) → ¬ (208 ≤ j ∧ j < 211 ∧ 6 * mb ≤ q) → m' j q = m j q
section MRT
variable {d : Nat} {P : qE → Prop} {X : qH} {sw : Bool} {o : Int64} {e : List Nat} {N : Nat} {K V G : Nat → Int32} {S E : Nat → Nat} {f : Nat → Int32} {L : Nat}
theorem mbq_mono {m m' : Nat → Nat → Int32} {mb : Nat} {b : qBk} {col : Nat → Nat} (h : mbq m mb b col) (h3 : b.2.1.length ≤ 3) (h4 : b.2.2.1.length ≤ 4) (h6 : b.2.2.2.length ≤ 6) (e1 : ∀ j, (j = 201 ∨ j = 202 ∨ j = 204 ∨ j = 207) → m' j mb = m j mb) (e3 : ∀ q, 3 * mb ≤ q → q < 3 * mb + 3 → m' 203 q = m 203 q) (e5 : ∀ q, 4 * mb ≤ q → q < 4 * mb + 4 → m' 205 q = m 205 q) (e8 : ∀ j q, 208 ≤ j → j < 211 → 6 * mb ≤ q → q < 6 * mb + 6 → m' j q = m j q) : mbq m' mb b col := by
  obtain ⟨a1, a2, a3, a4, a5, a6, a7⟩ := h
  refine ⟨by rw [e1 _ (by omega)]; exact a1, by rw [e1 _ (by omega)]; exact a2, by rw [e1 _ (by omega)]; exact a3, fun k v hk => ?_, by rw [e1 _ (by omega)]; exact a5, fun k v hk => ?_, fun k c hk => ?_⟩
  · have hl := (List.getElem?_eq_some_iff.mp hk).1
    rw [e5 _ (by omega) (by omega)]; exact a4 k v hk
  · have hl := (List.getElem?_eq_some_iff.mp hk).1
    rw [e3 _ (by omega) (by omega)]; exact a6 k v hk
  · have hl := (List.getElem?_eq_some_iff.mp hk).1
    rw [e8 _ _ (by omega) (by omega) (by omega) (by omega), e8 _ _ (by omega) (by omega) (by omega) (by omega), e8 _ _ (by omega) (by omega) (by omega) (by omega)]; exact a7 k c hk
theorem moAll {cnt : Nat} {col : Nat → Nat} (hX : X.length = 13) (h : qLx f L N K S V E G) (hc4 : cnt ≤ 4) (hc3 : ∀ t, t < 4 → col t ≤ 3) : ∀ (g k n : Nat) (mem : Nat → Nat → Int32) (w : Option Nat) (w2 : Slot), qfr w2 → k + g = 3 → 1 ≤ g → mtk mem f L S V E G n → n ≤ N → mem 193 1 = qi cnt → (∀ t, t < 4 → mem 194 t = qi (col t)) → (∀ q, b01 (mem 201 q) ∧ b01 (mem 210 q)) → (k = 0 → w = none) → (¬ k = 0 → ∃ x, w = some x ∧ x ≤ 3 ∧ mem 202 12 = qi x) →
    (∀ m' l p, prd (qi cnt) K V S col g n w = (some l, p) → mfg (12 + k) mem m' → m' 199 4 = qi (k + l.length) → (∀ j x, l[j]? = some x → mbq m' (12 + k + j) x.1 col ∧ (j + 1 < l.length → qsg x.2 (m' 200 (8 + k + j)))) → (∀ q, b01 (m' 201 q) ∧ b01 (m' 210 q)) → P (.inl (some (.int (-1))), hpo X m' sw o e)) →
    (∀ m' p, prd (qi cnt) K V S col g n w = (none, p) → mfg (12 + k) mem m' → (∀ q, b01 (m' 201 q) ∧ b01 (m' 210 q)) → P (.inl (some (.int (qi p))), hpo X m' sw o e)) →
    QW (d + 1 + 1 + 1 + 1 + 1 + 1) mMo_readText 11 (lMo_readText_11 (qi k) w2) [] (hpo X mem sw o e) P := by
  intro g
  induction g with
  | zero => intro k n mem w w2 _ _ hg; omega
  | succ g ih =>
    intro k n mem w w2 hw2 hk _ hm hn hc hco hb hwn hws k1 k0
    have hL := h.1
    have hk3 : ¬ (3 : Int32) ≤ qi k := fun z => by have := (qi_le (a := 3) (by omega) (by omega)).mp z; omega
    have e12 : (12 : Int32) + qi k = qi (12 + k) := qi_add 12 k
    have h10 := hm.2.2.1
    refine bMo_readText_11 hX hw2 (fun z => absurd z hk3) (fun _ => ?_)
    rw [e12, h10]
    refine cMo_readBlock (cnt := cnt) hX h (by omega) hc4 hn hm hc hb ?_ ?_
    · intro m1 b n1 p1 p2 p3 p4 p5 p6 p7
      obtain ⟨l3, l4, l6⟩ := pbl_len p1
      have hls : ∀ (s : Nat) (w : qV), b.2.2.1[s]? = some w → ∃ t, t < 4 ∧ w.1 = qi t := fun s v hv => by obtain ⟨t, h', h''⟩ := pbl_ok (by omega) p1 s v hv; exact ⟨t, by omega, h''⟩
      have g9 : m1 193 9 = G n1 := p4.2.2.2.2.1
      have hend := lx_end h p3
      refine qcl_i (bMo_readText_29 hX (fun _ => ?_) (fun z => absurd z (by decide)) (fun z => absurd z (by decide)))
      rw [e12]
      refine cMo_resolve (col := col) (b := b) hX (by omega) p6 l3 l4 l6 hls (fun t ht => ⟨by rw [p5 _ _ (by omega) (by omega) (by omega) (by omega) (by omega)]; exact hco t ht, hc3 t ht⟩) (fun hab m2 a1 a2 a3 => ?_) (fun hab m2 a1 => ?_)
      · have all2 : mfr (12 + k) mem m2 := fun j q x1 x2 x3 x4 x5 => by rw [a1 j q x3 (by omega), p5 j q x1 x2 x3 x4 x5]
        have hm2 : mtk m2 f L S V E G n1 := mtk_mono p4 (fun q _ _ => a1 _ _ (by omega) (by omega)) (fun q => a1 _ _ (by omega) (by omega))
        have hb2 : ∀ q, b01 (m2 201 q) ∧ b01 (m2 210 q) := fun q => by rw [a1 _ _ (by omega) (by omega), a1 _ _ (by omega) (by omega)]; exact p7 q
        have e202 : m2 202 (12 + k) = qi b.2.1.length := by rw [a1 _ _ (by omega) (by omega)]; exact p6.2.1
        have hq2 : mbq m2 (12 + k) b col := by
          obtain ⟨b1, b2, b3, b4, b5, b6⟩ := p6
          refine ⟨by rw [a1 _ _ (by omega) (by omega)]; exact b1, e202, by rw [a1 _ _ (by omega) (by omega)]; exact b4.1, fun k v hk => by rw [a1 _ _ (by omega) (by omega)]; exact (b4.2 k v hk).1, by rw [a1 _ _ (by omega) (by omega)]; exact b5, fun k v hk => ⟨a2 k v hk, (b3 k v hk).2⟩, fun k c hk => ⟨(a3 k c hk).1, (a3 k c hk).2, by rw [a1 _ _ (by omega) (by omega)]; exact (b6 k c hk).2.2.1, (b6 k c hk).2.2.2.1, (b6 k c hk).2.2.2.2⟩⟩
        have hcond : (m2 202 (Int32.toNatClampNeg (12 + qi k)) = m2 202 (Int32.toNatClampNeg 12)) ↔ (w = none ∨ w = some b.2.1.length) := by
          rw [e12, qi_N (by omega), show Int32.toNatClampNeg 12 = 12 from rfl, e202]
          by_cases hk0 : k = 0
          · subst hk0
            rw [show m2 202 12 = qi b.2.1.length from e202]
            simp [hwn rfl]
          · obtain ⟨x, hx1, hx2, hx3⟩ := hws hk0
            rw [all2 _ _ (by omega) (by omega) (by omega) (by omega) (by omega), hx3, hx1]
            constructor
            · intro z
              refine Or.inr ?_
              rw [qi_inj (by omega) (by omega) z]
            · rintro (z | z)
              · simp at z
              · simp at z
                rw [z]
        have bad : ¬ (w = none ∨ w = some b.2.1.length) → P (.inl (some (.int (qi (S n)))), hpo X m2 sw o e) := by
          intro hw
          refine k0 m2 (S n) ?_ (fun j q x1 x2 x3 x4 x5 x6 x7 => all2 j q x1 (by omega) (by omega) (by omega) (by omega)) hb2
          rw [prd, p1]
          simp only
          rw [if_pos p2, if_neg (fun z => hw z.2)]
        have bad81 : P (.inl (some (.int (qi (S n)))), hpo X m2 sw o e) → QW (d + 1 + 1 + 1 + 1 + 1 + 1) mMo_readText 81 (lMo_readText_81 (qi k) (qi (S n))) [] (hpo X m2 sw o e) P := by
          intro hP
          refine bMo_readText_81 hX (fun _ => bMo_readText_103 hX hP) (fun _ _ => bMo_readText_103 hX hP) (fun z1 z2 => ?_)
          have hS : S n = L := by
            have hle : S n ≤ L := by
              rcases lx_tk h hn with ⟨h0, _⟩ | ⟨_, h0, _⟩
              · rw [h0, h.2.2.1]; exact Nat.le_refl _
              · omega
            rw [hm2.1] at z2
            have := mt (qi_lt (a := S n) (b := L) (by omega) (by omega)).mpr z2
            omega
          rw [hm2.1, ← hS]; exact hP
        have h4N : Int32.toNatClampNeg 4 = 4 := rfl
        refine qcl_i (bMo_readText_59 hX (fun z => absurd z (by decide)) (fun _ => by rw [e12]; exact qi_inx (by omega) (by omega)) (fun _ y1 y2 y3 => ?_) (fun _ y1 y2 y3 => ?_) (fun _ y1 y2 => ?_) (fun _ y => bad81 (bad (fun y' => y (hcond.mpr y')))))
        · -- three blocks, and more
          have hw := hcond.mp y1
          rw [h4N, mup_ce (by omega), hm2.2.2.2.2.1] at y2
          have hkn : ¬ K n1 = 0 := fun y => y2 (hend.2.mpr (hend.1.mp y))
          have hk2 : g = 0 := by
            have := (qi_le (a := 2) (by omega) (by omega)).mp y3
            omega
          rw [h4N]
          refine bMo_readText_168 hX ?_
          rw [qi_1]
          refine bMo_readText_11 hX (Or.inr (Or.inl ⟨_, rfl⟩)) (fun _ => ?_) (fun z => absurd ((qi_le (a := 3) (by omega) (by omega)).mpr (by omega)) z)
          rw [show mup m2 199 4 (qi (k + 1)) 193 10 = qi (S n1) by (repeat (rw [mup_q]; first | rw [if_pos (by omega)] | rw [if_neg (by omega)])); exact hm2.2.2.1]
          refine k0 _ (S n1) ?_ (fun j q x1 x2 x3 x4 x5 x6 x7 => by (repeat (rw [mup_q]; first | rw [if_pos (by omega)] | rw [if_neg (by omega)])); exact all2 j q x1 (by omega) (by omega) (by omega) (by omega)) (fun q => ?_)
          · rw [prd, p1]
            simp only
            rw [if_pos p2, if_pos ⟨hab, hw⟩, if_neg hkn, if_pos hk2]
          · rw [mup_ce (by omega), mup_ce (by omega)]; exact hb2 q
        · have hw := hcond.mp y1
          rw [h4N, mup_ce (by omega), hm2.2.2.2.2.1] at y2
          have hkn : ¬ K n1 = 0 := fun y => y2 (hend.2.mpr (hend.1.mp y))
          have hg0 : ¬ g = 0 := fun z => by
            apply y3
            exact (qi_le (a := 2) (by omega) (by omega)).mpr (by omega)
          have hlt : n1 < N := by
            rcases Nat.lt_or_eq_of_le p3 with h' | h'
            · exact h'
            · exact absurd (hend.1.mpr h') hkn
          rw [h4N, qi_1]
          have fr3 : ∀ j q, ¬ (j = 199 ∧ q = 4) → mup m2 199 4 (qi (k + 1)) j q = m2 j q := fun j q a => by (repeat (rw [mup_q]; first | rw [if_pos (by omega)] | rw [if_neg (by omega)]))
          have x199 : mup m2 199 4 (qi (k + 1)) 199 4 = qi (k + 1) := mup_at _ _ _ _
          generalize mup m2 199 4 (qi (k + 1)) = m3 at fr3 x199 ⊢
          have hm3 : mtk m3 f L S V E G n1 := mtk_mono hm2 (fun q _ _ => fr3 _ _ (by omega)) (fun q => fr3 _ _ (by omega))
          have e8 : (8 : Int32) + qi k = qi (8 + k) := qi_add 8 k
          rw [e8]
          -- the sign is written
          have go : ∀ s : Int32, qsg (K n1) s → QW (d + 1 + 1 + 1 + 1 + 1 + 1) mMo_readText 163 (lMo_readText_163 (qi k) (qi (S n))) [.int s, .int (qi (8 + k)), .ref 200] (hpo X m3 sw o e) P := by
            intro s hs
            refine bMo_readText_163 hX (qi_inx (by omega) (by omega)) ?_
            rw [qi_N (by omega)]
            have fr4 : ∀ j q, ¬ (j = 200 ∧ q = 8 + k) → mup m3 200 (8 + k) s j q = m3 j q := fun j q a => by (repeat (rw [mup_q]; first | rw [if_pos (by omega)] | rw [if_neg (by omega)]))
            have x200 : mup m3 200 (8 + k) s 200 (8 + k) = s := mup_at _ _ _ _
            generalize mup m3 200 (8 + k) s = m4 at fr4 x200 ⊢
            have hm4 : mtk m4 f L S V E G n1 := mtk_mono hm3 (fun q _ _ => fr4 _ _ (by omega)) (fun q => fr4 _ _ (by omega))
            refine cMo_nextT hX h hlt hm4 (fun m5 c1 c2 => qcl_v (bMo_readText_168 hX ?_))
            rw [qi_1]
            have all5 : ∀ j q, ¬ (j = 193 ∧ 9 ≤ q ∧ q < 13) → ¬ (j = 199 ∧ q = 4) → ¬ (j = 200 ∧ q = 8 + k) → m5 j q = m2 j q := fun j q x1 x2 x3 => by rw [c1 j q x1, fr4 j q x3, fr3 j q x2]
            refine ih (k + 1) (n1 + 1) m5 (some b.2.1.length) _ (Or.inr (Or.inl ⟨_, rfl⟩)) (by omega) (by omega) c2 (by omega) ?_ (fun t ht => ?_) (fun q => ?_) (fun z => by omega) (fun _ => ⟨_, rfl, l3, ?_⟩) ?_ ?_
            · rw [all5 _ _ (by omega) (by omega) (by omega), all2 _ _ (by omega) (by omega) (by omega) (by omega) (by omega)]; exact hc
            · rw [all5 _ _ (by omega) (by omega) (by omega), all2 _ _ (by omega) (by omega) (by omega) (by omega) (by omega)]; exact hco t ht
            · rw [all5 _ _ (by omega) (by omega) (by omega), all5 _ _ (by omega) (by omega) (by omega)]; exact hb2 q
            · rw [all5 _ _ (by omega) (by omega) (by omega)]
              have := y1
              rw [e12, qi_N (by omega), show Int32.toNatClampNeg 12 = 12 from rfl, e202] at this
              exact this.symm
            · intro m6 l p f1 f2 f3 f4 f5
              refine k1 m6 ((b, K n1) :: l) p ?_ (fun j q x1 x2 x3 x4 x5 x6 x7 => ?_) (by rw [f3, List.length_cons]; congr 1; omega) ?_ f5
              · rw [prd, p1]
                simp only
                rw [if_pos p2, if_pos ⟨hab, hw⟩, if_neg hkn, if_neg hg0, f1]
              · rw [f2 j q x1 x2 (by omega) (by omega) (by omega) (by omega) (by omega), all5 j q x1 x2 (by omega), all2 j q x1 (by omega) (by omega) (by omega) (by omega)]
              · intro j x hx
                rcases j with _ | j
                · simp at hx
                  subst hx
                  refine ⟨mbq_mono hq2 l3 l4 l6 (fun j hj => ?_) (fun q _ _ => ?_) (fun q _ _ => ?_) (fun j q _ _ _ _ => ?_), fun _ => ?_⟩
                  · rw [f2 _ _ (by omega) (by omega) (by omega) (by omega) (by omega) (by omega) (by omega), all5 _ _ (by omega) (by omega) (by omega)]
                  · rw [f2 _ _ (by omega) (by omega) (by omega) (by omega) (by omega) (by omega) (by omega), all5 _ _ (by omega) (by omega) (by omega)]
                  · rw [f2 _ _ (by omega) (by omega) (by omega) (by omega) (by omega) (by omega) (by omega), all5 _ _ (by omega) (by omega) (by omega)]
                  · rw [f2 _ _ (by omega) (by omega) (by omega) (by omega) (by omega) (by omega) (by omega), all5 _ _ (by omega) (by omega) (by omega)]
                  · show qsg (K n1) (m6 200 (8 + k))
                    rw [f2 _ _ (by omega) (by omega) (by omega) (by omega) (by omega) (by omega) (by omega), c1 _ _ (by omega), x200]; exact hs
                · have := f4 j x (by simpa using hx)
                  rw [show 12 + k + (j + 1) = 12 + (k + 1) + j by omega, show 8 + k + (j + 1) = 8 + (k + 1) + j by omega]
                  exact ⟨this.1, fun z => this.2 (by simp at z; omega)⟩
            · intro m6 p f1 f2 f3
              refine k0 m6 p ?_ (fun j q x1 x2 x3 x4 x5 x6 x7 => ?_) f3
              · rw [prd, p1]
                simp only
                rw [if_pos p2, if_pos ⟨hab, hw⟩, if_neg hkn, if_neg hg0, f1]
              · rw [f2 j q x1 x2 (by omega) (by omega) (by omega) (by omega) (by omega), all5 j q x1 x2 (by omega), all2 j q x1 (by omega) (by omega) (by omega) (by omega)]
          refine cMo_isIt hX h p3 hm3 (by simp [isg]) (fun x _ => qcl_i (bMo_readText_142 hX (fun z => absurd z (by decide)) (fun _ => go 0 (Or.inl ⟨x, rfl⟩)))) (fun x => qcl_i (bMo_readText_142 hX (fun _ => ?_) (fun z => absurd rfl z)))
          refine cMo_isIt hX h p3 hm3 (by simp [isg]) (fun x' _ => qcl_i (bMo_readText_155 hX (fun z => absurd z (by decide)) (fun _ => go 1 (Or.inr (Or.inl ⟨x', rfl⟩))))) (fun x' => qcl_i (bMo_readText_155 hX (fun _ => go 2 (Or.inr (Or.inr ⟨?_, rfl⟩))) (fun z => absurd rfl z)))
          rcases p2 with z | z | z | z
          · exact absurd z hkn
          · exact absurd z x
          · exact absurd z x'
          · exact z
        · have hw := hcond.mp y1
          rw [h4N, mup_ce (by omega), hm2.2.2.2.2.1] at y2
          have hkn : K n1 = 0 := hend.1.mpr (hend.2.mp y2)
          rw [h4N, qi_1]
          refine k1 _ [(b, 0)] 0 ?_ (fun j q x1 x2 x3 x4 x5 x6 x7 => by (repeat (rw [mup_q]; first | rw [if_pos (by omega)] | rw [if_neg (by omega)])); exact all2 j q x1 (by omega) (by omega) (by omega) (by omega)) (by rw [mup_at]; simp) ?_ (fun q => by rw [mup_ce (by omega), mup_ce (by omega)]; exact hb2 q)
          · rw [prd, p1]
            simp only
            rw [if_pos p2, if_pos ⟨hab, hw⟩, if_pos hkn]
          · intro j x hx
            rcases j with _ | j
            · simp at hx
              subst hx
              exact ⟨mbq_mono hq2 l3 l4 l6 (fun j hj => by (repeat (rw [mup_q]; first | rw [if_pos (by omega)] | rw [if_neg (by omega)]))) (fun q _ _ => by (repeat (rw [mup_q]; first | rw [if_pos (by omega)] | rw [if_neg (by omega)]))) (fun q _ _ => by (repeat (rw [mup_q]; first | rw [if_pos (by omega)] | rw [if_neg (by omega)]))) (fun j q _ _ _ _ => by (repeat (rw [mup_q]; first | rw [if_pos (by omega)] | rw [if_neg (by omega)]))), fun z => absurd z (by simp)⟩
            · simp at hx
      · have all2 : mfr (12 + k) mem m2 := fun j q x1 x2 x3 x4 x5 => by rw [a1 j q x3 (by omega), p5 j q x1 x2 x3 x4 x5]
        have hm2 : mtk m2 f L S V E G n1 := mtk_mono p4 (fun q _ _ => a1 _ _ (by omega) (by omega)) (fun q => a1 _ _ (by omega) (by omega))
        have hb2 : ∀ q, b01 (m2 201 q) ∧ b01 (m2 210 q) := fun q => by rw [a1 _ _ (by omega) (by omega), a1 _ _ (by omega) (by omega)]; exact p7 q
        have hP : P (.inl (some (.int (qi (S n)))), hpo X m2 sw o e) := by
          refine k0 m2 (S n) ?_ (fun j q x1 x2 x3 x4 x5 x6 x7 => all2 j q x1 (by omega) (by omega) (by omega) (by omega)) hb2
          rw [prd, p1]
          simp only
          rw [if_pos p2, if_neg (fun z => hab z.1)]
        refine qcl_i (bMo_readText_59 hX (fun _ => ?_) (fun z => absurd rfl z) (fun z => absurd rfl z) (fun z => absurd rfl z) (fun z => absurd rfl z) (fun z => absurd rfl z))
        refine bMo_readText_81 hX (fun _ => bMo_readText_103 hX hP) (fun _ _ => bMo_readText_103 hX hP) (fun z1 z2 => ?_)
        have hS : S n = L := by
          have hle : S n ≤ L := by
            rcases lx_tk h hn with ⟨h0, _⟩ | ⟨_, h0, _⟩
            · rw [h0, h.2.2.1]; exact Nat.le_refl _
            · omega
          rw [hm2.1] at z2
          have := mt (qi_lt (a := S n) (b := L) (by omega) (by omega)).mpr z2
          omega
        rw [hm2.1, ← hS]; exact hP
    · intro m1 n1 p1 p3 p4 p5 p7
      have g9 : m1 193 9 = G n1 := p4.2.2.2.2.1
      have hend := lx_end h p3
      have hP : P (.inl (some (.int (qi (S n1)))), hpo X m1 sw o e) := by
        refine k0 m1 (S n1) ?_ (fun j q x1 x2 x3 x4 x5 x6 x7 => p5 j q x1 (by omega) (by omega) (by omega) (by omega)) p7
        rcases p1 with p1 | ⟨b, p1, p2⟩
        · rw [prd, p1]
        · rw [prd, p1]
          simp only
          rw [if_neg p2]
      refine qcl_i (bMo_readText_29 hX (fun z => absurd rfl z) (fun _ _ => by rw [p4.2.2.1]; exact hP) (fun _ z => ?_))
      have : n1 = N := hend.2.mp (g9.symm.trans z)
      rw [p4.1, ← h.2.2.1, ← this]; exact hP
end MRT
