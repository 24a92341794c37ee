/-- a block that was read and bound, in the cells at B -/
def blq (m : Nat → Nat → Int32) (B : Nat) (b : qBk) (col : Nat → Nat) : Prop := m B 0 = b.1 ∧ m B 1 = qi b.2.1.length ∧ (1 ≤ b.2.1.length ∧ b.2.1.length ≤ 3) ∧ srs m B b.2.2.1 ∧ (1 ≤ b.2.2.1.length ∧ b.2.2.1.length ≤ 4) ∧ m B 3 = qi b.2.2.2.length ∧ b.2.2.2.length ≤ 6 ∧ (∀ k v, uv b k = some v → m (B + 4) k = v.1 ∧ bsl b.2.2.1 col v (m (B + 5) k) ∧ m (B + 6) k = v.2) ∧ (∀ k c, b.2.2.2[k]? = some c → m (B + 3) k = c.2.1)
/-- the blocks at n, each with the sign behind it; or the place of what is wrong -/
noncomputable def prd (c : Int32) (K V : Nat → Int32) (S : Nat → Nat) (col : Nat → Nat) : Nat → Nat → Option Nat → Option (List (qBk × Int32)) × Nat
  | 0, n, _ => (none, S n)
  | f + 1, n, w => match pbl c K V n with
    | (none, n1) => (none, S n1)
    | (some b, n1) => @ite _ (bhd K n1) (Classical.propDecidable _) (@ite _ (abd col b ∧ (w = none ∨ w = some b.2.1.length)) (Classical.propDecidable _) (if K n1 = 0 then (some [(b, 0)], 0) else (if f = 0 then (none, S n1) else (match prd c K V S col f (n1 + 1) (some b.2.1.length) with
      | (none, p) => (none, p)
      | (some l, p) => (some ((b, K n1) :: l), p)))) (none, S n)) (none, S n1)
theorem psr_ok {cnt : Nat} {K V : Nat → Int32} (h4 : cnt < 2147483648) : ∀ f n acc l n', psr (qi cnt) K V f n acc = (some l, n') → (∀ v ∈ acc, ∃ t, t < cnt ∧ v.1 = qi t) → ∀ v ∈ l, ∃ t, t < cnt ∧ v.1 = qi t := by
  intro f
  induction f with
  | zero =>
    intro n acc l n' h ha
    simp [psr] at h
    rw [← h.1]; exact ha
  | succ f ih =>
    intro n acc l n' h ha
    rw [psr] at h
    by_cases h1 : K n = 4 ∧ ¬ V n < 0 ∧ ¬ qi cnt ≤ V n
    · rw [if_pos h1] at h
      have ha' : ∀ v ∈ acc ++ [(V n, V (n + 1))], ∃ t, t < cnt ∧ v.1 = qi t := by
        intro v hv
        rw [List.mem_append] at hv
        rcases hv with hv | hv
        · exact ha v hv
        · simp at hv
          subst hv
          obtain ⟨t, ht, e⟩ := qi_of h1.2.1
          refine ⟨t, ?_, e⟩
          have := h1.2.2
          rw [e, qi_le h4 ht] at this
          omega
      by_cases h2 : K (n + 1) = 3 ∧ ∀ v ∈ acc, ¬ v.2 = V (n + 1)
      · rw [if_pos h2] at h
        by_cases h3 : ¬ f = 0 ∧ K (n + 2) = 44
        · rw [if_pos h3] at h
          exact ih _ _ _ _ h ha'
        · rw [if_neg h3] at h
          simp at h
          rw [← h.1]; exact ha'
      · rw [if_neg h2] at h
        simp at h
    · rw [if_neg h1] at h
      simp at h
theorem pbl_ok {cnt n n' : Nat} {K V : Nat → Int32} {b : qBk} (h4 : cnt < 2147483648) (h : pbl (qi cnt) K V n = (some b, n')) : ∀ (s : Nat) (v : qV), b.2.2.1[s]? = some v → ∃ t, t < cnt ∧ v.1 = qi t := by
  have : ∀ v ∈ b.2.2.1, ∃ t, t < cnt ∧ v.1 = qi t := by
    unfold pbl at h
    generalize (if K n = 6 then n + 1 else n) = n0 at h
    generalize (if K n = 6 then (1 : Int32) else 0) = s0 at h
    split at h
    · split at h
      · simp at h
      · split at h
        · split at h
          · simp at h
          · rename_i hx
            have := psr_ok h4 _ _ _ _ _ hx (by simp)
            split at h
            · split at h
              · simp at h
              · simp at h
                rw [← h.1]; exact this
            · simp at h
              rw [← h.1]; exact this
        · simp at h
    · simp at h
  intro s v hv
  exact this v (List.mem_of_getElem? hv)
section GRG
variable {d : Nat} {P : qE → Prop} {X : qH} {sw : Bool} {o : Int64} {e : List Nat} {N : Nat} {K V : Nat → Int32} {S : Nat → Nat} {Q : Nat}
theorem blq_mono {m m' : Nat → Nat → Int32} {B : Nat} {b : qBk} {col : Nat → Nat} (h : blq m B b col) (e1 : ∀ j q, B ≤ j → j < B + 7 → m' j q = m j q) : blq m' B b col := by
  obtain ⟨h1, h2, h3, h4, h5, h6, h7, h8, h9⟩ := h
  refine ⟨by rw [e1 _ _ (by omega) (by omega)]; exact h1, by rw [e1 _ _ (by omega) (by omega)]; exact h2, h3, srs_mono h4 (e1 _ _ (by omega) (by omega)) (fun q => e1 _ _ (by omega) (by omega)) (fun q => e1 _ _ (by omega) (by omega)), h5, by rw [e1 _ _ (by omega) (by omega)]; exact h6, h7, fun k v hu => ?_, fun k c hk => by rw [e1 _ _ (by omega) (by omega)]; exact h9 k c hk⟩
  rw [e1 _ _ (by omega) (by omega), e1 _ _ (by omega) (by omega), e1 _ _ (by omega) (by omega)]
  exact h8 k v hu
theorem rdAll {cnt : Nat} {col : Nat → Nat} (hX : X.length = 13) (hQ : kQu Q) (hQ1 : 35 < Q) (hc4 : cnt ≤ 4) (hc3 : ∀ t, t < 4 → col t ≤ 3) : ∀ (f b n : Nat) (mem : Nat → Nat → Int32) (w : Option Nat) (w5 w6 : Slot), qfr w5 → qfr w6 → b + f = 3 → qTk mem N K S V → mem 31 4 = qi n → n ≤ N → mem 14 1 = qi cnt → (∀ t, t < 4 → mem (16 + 3 * t) 0 = qi (col t)) → mem Q 0 = qi b → (b = 0 → w = none) → (¬ b = 0 → ∃ x, w = some x ∧ x ≤ 3 ∧ mem (Q + 3) 1 = qi x) → 1 ≤ f →
    (∀ m' l p, prd (qi cnt) K V S col f n w = (some l, p) → (∀ j q, ¬ (j = 31 ∧ q = 4) → ¬ (j = Q ∧ q = 0) → ¬ (j = Q + 2 ∧ b ≤ q) → ¬ (Q + 3 + 7 * b ≤ j ∧ j < Q + 24) → m' j q = mem j q) → m' Q 0 = qi (b + l.length) → 1 ≤ l.length → l.length ≤ f → (∀ k x, l[k]? = some x → blq m' (Q + 3 + 7 * (b + k)) x.1 col ∧ (k + 1 < l.length → m' (Q + 2) (b + k) = x.2)) → P (.inl (some (.int (-1))), hpo X m' sw o e)) →
    (∀ m' p, prd (qi cnt) K V S col f n w = (none, p) → (∀ j q, ¬ (j = 31 ∧ q = 4) → ¬ (j = Q ∧ q = 0) → ¬ (j = Q + 2 ∧ b ≤ q) → ¬ (Q + 3 + 7 * b ≤ j ∧ j < Q + 24) → m' j q = mem j q) → P (.inl (some (.int (qi p))), hpo X m' sw o e)) →
    QW (d + 1 + 1 + 1 + 1) mRd_read 16 (lRd_read_16 (qi b) w5 w6 Q) [] (hpo X mem sw o e) P := by
  intro f
  induction f with
  | zero => intro b n mem w w5 w6 _ _ _ _ _ _ _ _ _ _ _ hf; omega
  | succ f ih =>
    intro b n mem w w5 w6 hw5 hw6 hbf ht hn hN hc hco hQ0 hwn hws _ k1 k0
    have hb3 : ¬ (3 : Int32) ≤ qi b := fun z => by have := (qi_le (a := 3) (by omega) (by omega)).mp z; omega
    have hBk : kBl (Q + 3 + 7 * b) := (kQu_b hQ b (by omega)).1
    refine bRd_read_16 hX hQ hw5 hw6 (fun z => absurd z hb3) (fun _ => cTok_start hX ht hn hN (qcl_i (bRd_read_29 hX hQ hw5 hw6 (qi_inx (by omega) (by omega)) ?_)))
    rw [qi_N (by omega)]
    refine cRd_readBlock (cnt := cnt) hX hBk (by omega) ht hn hN hc ?_ ?_
    · intro m1 bk n1 h1 h2 h3 h4 h5
      have ht1 : qTk m1 N K S V := qTk_mono (h4 _ _ (by omega) (by omega)) (fun j q a b => h4 _ _ (by omega) (by omega)) ht
      refine qcl_i (bRd_read_47 hX hQ hBk (fun z => absurd z (by decide)) (fun _ => cRd_isBehindBlock hX ht1 h3 h2 (fun hb1 => ?_) (fun hb1 => ?_)))
      · refine qcl_i (bRd_read_54 hX hQ hBk (fun _ => ?_) (fun z => absurd z (by decide)))
        refine cBl_bind (b := bk) (col := col) hX hBk (by omega) h5 (fun t ht' => ⟨by rw [h4 _ _ (by omega) (by omega)]; exact hco t ht', hc3 t ht'⟩) (fun s v hv => by obtain ⟨t, h', h''⟩ := pbl_ok (by omega) h1 s v hv; exact ⟨t, by omega, h''⟩) (fun m2 g1 g2 => ?_) (fun m2 g1 g2 => ?_)
        · have habd : abd col bk := fun k v hv => ⟨_, g2 k v hv⟩
          have hall : ∀ j q, ¬ (j = 31 ∧ q = 4) → ¬ (Q + 3 + 7 * b ≤ j ∧ j < Q + 3 + 7 * b + 7) → m2 j q = mem j q := fun j q a c => by rw [g1 j q (by omega), h4 j q a c]
          have hq2 : blq m2 (Q + 3 + 7 * b) bk col := by
            obtain ⟨a1, a2, a3, a4, a5, a6, a7, a8, a9⟩ := h5
            refine ⟨by rw [g1 _ _ (by omega)]; exact a1, by rw [g1 _ _ (by omega)]; exact a2, a3, srs_mono a5 (g1 _ _ (by omega)) (fun q => g1 _ _ (by omega)) (fun q => g1 _ _ (by omega)), a6, by rw [g1 _ _ (by omega)]; exact a7, a8, fun k v hu => ?_, fun k c hk => by rw [g1 _ _ (by omega)]; exact (a9 k c hk).2.2⟩
            have hs := uv_slt ⟨a1, a2, a3, a4, a5, a6, a7, a8, a9⟩ hu
            exact ⟨by rw [g1 _ _ (by omega)]; exact hs.1, g2 k v hu, by rw [g1 _ _ (by omega)]; exact hs.2.2⟩
          have hcond : (m2 (Q + 3 + 7 * b) 1 = m2 (Q + 3 + 7 * Int32.toNatClampNeg 0) 1) ↔ (w = none ∨ w = some bk.2.1.length) := by
            rw [show Int32.toNatClampNeg 0 = 0 from rfl, Nat.mul_zero, Nat.add_zero, hq2.2.1]
            by_cases hb0 : b = 0
            · subst hb0
              simp only [Nat.mul_zero, Nat.add_zero] at hq2
              rw [hq2.2.1]
              simp [hwn rfl]
            · obtain ⟨x, hx1, hx2, hx3⟩ := hws hb0
              rw [hall _ _ (by omega) (by omega), hx3, hx1]
              have := hq2.2.2.1
              constructor
              · intro h
                refine Or.inr ?_
                rw [qi_inj (by omega) (by omega) h]
              · rintro (h | h)
                · simp at h
                · simp at h
                  rw [h]
          have bad : ¬ (w = none ∨ w = some bk.2.1.length) → P (.inl (some (.int (qi (S n)))), hpo X m2 sw o e) := by
            intro hw
            refine k0 m2 (S n) ?_ (fun j q a c1 c2 c3 => hall j q a (by omega))
            rw [prd, h1]
            simp only
            rw [if_pos hb1, if_neg (fun z => hw z.2)]
          refine qcl_i (bRd_read_71 hX hQ hBk (fun z => absurd z (by decide)) (fun _ z => ?_) (fun _ z => bRd_read_91 hX hQ hBk (bad (fun y => z (hcond.mpr y)))))
          have hw := hcond.mp z
          have hm2 : m2 Q 0 = qi b := by rw [hall _ _ (by omega) (by omega)]; exact hQ0
          have hfr : ∀ j q, ¬ (j = Q ∧ q = 0) → mup m2 Q 0 (m2 Q 0 + 1) j q = m2 j q := fun j q a => by (repeat (rw [mup_q]; first | rw [if_pos (by omega)] | rw [if_neg (by omega)]))
          have hQ2 : mup m2 Q 0 (m2 Q 0 + 1) Q 0 = qi (b + 1) := by (repeat (rw [mup_q]; first | rw [if_pos (by omega)] | rw [if_neg (by omega)])); rw [hm2, qi_1]
          generalize mup m2 Q 0 (m2 Q 0 + 1) = m3 at hfr hQ2 ⊢
          have ht3 : qTk m3 N K S V := qTk_mono (by rw [hfr _ _ (by omega)]; exact g1 _ _ (by omega)) (fun j q a b => by rw [hfr _ _ (by omega)]; exact g1 _ _ (by omega)) ht1
          have hn3 : m3 31 4 = qi n1 := by rw [hfr _ _ (by omega), g1 _ _ (by omega)]; exact h3
          have hq3 : blq m3 (Q + 3 + 7 * b) bk col := blq_mono hq2 (fun j q a c => hfr _ _ (by omega))
          refine cTok_is hX ht3 hn3 h2 (fun x => ?_) (fun x => ?_)
          · refine qcl_i (bRd_read_112 hX hQ hBk (fun y => absurd y (by decide)) (fun y => absurd y (by decide)) (fun _ => k1 m3 [(bk, 0)] 0 ?_ (fun j q a c1 c2 c3 => by rw [hfr j q c1, hall j q a (by omega)]) (by rw [hQ2]; simp) (by simp) (by simp) ?_))
            · rw [prd, h1]
              simp only
              rw [if_pos hb1, if_pos ⟨habd, hw⟩, if_pos x]
            · intro k y hk
              rcases k with _ | k
              · simp at hk
                subst hk
                exact ⟨hq3, fun z => absurd z (by simp)⟩
              · simp at hk
          · by_cases hf0 : f = 0
            · have hb2 : (3 : Int32) ≤ qi b + 1 := by rw [qi_1]; exact (qi_le (a := 3) (by omega) (by omega)).mpr (by omega)
              have hb2' : (3 : Int32) ≤ qi (b + 1) := (qi_le (a := 3) (by omega) (by omega)).mpr (by omega)
              refine qcl_i (bRd_read_112 hX hQ hBk (fun _ _ => ?_) (fun _ y => absurd hb2 y) (fun y => absurd rfl y))
              rw [qi_1]
              refine bRd_read_16 hX hQ (Or.inr (Or.inl ⟨_, rfl⟩)) (Or.inr (Or.inr ⟨_, rfl⟩)) (fun _ => cTok_start hX ht3 hn3 h2 (qcl_i (bRd_read_167 hX hQ (Or.inr (Or.inl ⟨_, rfl⟩)) (Or.inr (Or.inr ⟨_, rfl⟩)) (k0 m3 (S n1) ?_ (fun j q a c1 c2 c3 => by rw [hfr j q c1, hall j q a (by omega)]))))) (fun y => absurd hb2' y)
              rw [prd, h1]
              simp only
              rw [if_pos hb1, if_pos ⟨habd, hw⟩, if_neg x, if_pos hf0]
            · have hb2 : ¬ (3 : Int32) ≤ qi b + 1 := fun y => by rw [qi_1] at y; have := (qi_le (a := 3) (by omega) (by omega)).mp y; omega
              refine qcl_i (bRd_read_112 hX hQ hBk (fun _ y => absurd y hb2) (fun _ _ => cTok_kind hX ht3 hn3 h2 (qcl_i (bRd_read_138 hX hQ hBk (qi_inx (by omega) (by omega)) ?_))) (fun y => absurd rfl y))
              rw [qi_N (by omega)]
              have hfr4 : ∀ j q, ¬ (j = Q + 2 ∧ q = b) → mup m3 (Q + 2) b (K n1) j q = m3 j q := fun j q a => by (repeat (rw [mup_q]; first | rw [if_pos (by omega)] | rw [if_neg (by omega)]))
              have hs4 : mup m3 (Q + 2) b (K n1) (Q + 2) b = K n1 := mup_at _ _ _ _
              generalize mup m3 (Q + 2) b (K n1) = m4 at hfr4 hs4 ⊢
              have ht4 : qTk m4 N K S V := qTk_mono (hfr4 _ _ (by omega)) (fun j q a b => hfr4 _ _ (by omega)) ht3
              have hn4 : m4 31 4 = qi n1 := by rw [hfr4 _ _ (by omega)]; exact hn3
              refine cTok_kind hX ht4 hn4 h2 (qcl_i (bRd_read_150 hX hQ hBk (cTok_take hX ht4 hn4 h2 x (fun _ y => ?_) (fun y => absurd rfl y))))
              refine qcl_i (bRd_read_153 hX hQ hBk ?_)
              rw [qi_1]
              have hfr5 : ∀ j q, ¬ (j = 31 ∧ q = 4) → mup m4 31 4 (qi (n1 + 1)) j q = m4 j q := fun j q a => by (repeat (rw [mup_q]; first | rw [if_pos (by omega)] | rw [if_neg (by omega)]))
              refine ih (b + 1) (n1 + 1) _ (some bk.2.1.length) _ _ (Or.inr (Or.inl ⟨_, rfl⟩)) (Or.inr (Or.inr ⟨_, rfl⟩)) (by omega) (qTk_at _ ht4) (mup_at _ _ _ _) (by omega) ?_ (fun t ht' => ?_) ?_ (fun h => by omega) (fun _ => ⟨_, rfl, hq3.2.2.1.2, ?_⟩) (by omega) ?_ ?_
              · rw [hfr5 _ _ (by omega), hfr4 _ _ (by omega), hfr _ _ (by omega), hall _ _ (by omega) (by omega)]; exact hc
              · rw [hfr5 _ _ (by omega), hfr4 _ _ (by omega), hfr _ _ (by omega), hall _ _ (by omega) (by omega)]; exact hco t ht'
              · rw [hfr5 _ _ (by omega), hfr4 _ _ (by omega)]; exact hQ2
              · rw [hfr5 _ _ (by omega), hfr4 _ _ (by omega)]
                by_cases hb0 : b = 0
                · subst hb0
                  have := hq3.2.1
                  simpa using this
                · obtain ⟨x', hx1, hx2, hx3⟩ := hws hb0
                  rw [hfr _ _ (by omega), hall _ _ (by omega) (by omega), hx3]
                  rcases hw with hw | hw
                  · rw [hw] at hx1; simp at hx1
                  · rw [hw] at hx1; simp at hx1; rw [hx1]
              · intro m5 l p f1 f2 f3 f4 f5 f6
                refine k1 m5 ((bk, K n1) :: l) p ?_ (fun j q a c1 c2 c3 => ?_) (by rw [f3, List.length_cons]; congr 1; omega) (by simp) (by simp; omega) ?_
                · rw [prd, h1]
                  simp only
                  rw [if_pos hb1, if_pos ⟨habd, hw⟩, if_neg x, if_neg hf0, f1]
                · rw [f2 j q a c1 (by omega) (by omega), hfr5 j q a, hfr4 j q (by omega), hfr j q c1, hall j q a (by omega)]
                · intro k y hk
                  rcases k with _ | k
                  · simp at hk
                    subst hk
                    refine ⟨blq_mono hq3 (fun j q a c => ?_), fun _ => ?_⟩
                    · rw [f2 j q (by omega) (by omega) (by omega) (by omega), hfr5 j q (by omega), hfr4 j q (by omega)]
                    · rw [f2 _ _ (by omega) (by omega) (by omega) (by omega), hfr5 _ _ (by omega)]; exact hs4
                  · have := f6 k y (by simpa using hk)
                    rw [show b + (k + 1) = b + 1 + k by omega]
                    exact ⟨this.1, fun z => this.2 (by simp at z; omega)⟩
              · intro m5 p f1 f2
                refine k0 m5 p ?_ (fun j q a c1 c2 c3 => ?_)
                · rw [prd, h1]
                  simp only
                  rw [if_pos hb1, if_pos ⟨habd, hw⟩, if_neg x, if_neg hf0, f1]
                · rw [f2 j q a c1 (by omega) (by omega), hfr5 j q a, hfr4 j q (by omega), hfr j q c1, hall j q a (by omega)]
        · obtain ⟨k, v, hu, hbb⟩ := g2
          refine qcl_i (bRd_read_71 hX hQ hBk (fun _ => bRd_read_91 hX hQ hBk (k0 m2 (S n) ?_ (fun j q a c1 c2 c3 => ?_))) (fun z => absurd rfl z) (fun z => absurd rfl z))
          · rw [prd, h1]
            simp only
            rw [if_pos hb1, if_neg (fun z => bbd_no hc3 hbb (z.1 k v hu))]
          · rw [g1 j q (by omega), h4 j q a (by omega)]
      · refine qcl_i (bRd_read_54 hX hQ hBk (fun z => absurd rfl z) (fun _ => bRd_read_57 hX hQ hBk (cTok_start hX ht1 h3 h2 (qcl_i (bRd_read_64 hX hQ hBk (k0 m1 (S n1) ?_ (fun j q a c1 c2 c3 => h4 j q a (by omega))))))))
        rw [prd, h1]
        simp only
        rw [if_neg hb1]
    · intro m1 n1 h1 h2 h3 h4
      have ht1 : qTk m1 N K S V := qTk_mono (h4 _ _ (by omega) (by omega)) (fun j q a b => h4 _ _ (by omega) (by omega)) ht
      refine qcl_i (bRd_read_47 hX hQ hBk (fun _ => bRd_read_57 hX hQ hBk (cTok_start hX ht1 h3 h2 (qcl_i (bRd_read_64 hX hQ hBk (k0 m1 (S n1) ?_ (fun j q a c1 c2 c3 => h4 j q a (by omega))))))) (fun z => absurd rfl z))
      rw [prd, h1]
end GRG
