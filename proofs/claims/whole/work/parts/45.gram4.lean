def slt (mem : Nat → Nat → Int32) (B s : Nat) (v : Int32 × Int32) : Prop := mem (B + 4) s = v.1 ∧ mem (B + 5) s = -1 ∧ mem (B + 6) s = v.2
def cds (mem : Nat → Nat → Int32) (B i : Nat) (l : List ((Int32 × Int32) × Int32 × (Int32 × Int32))) : Prop := ∀ k c, l[k]? = some c → slt mem B (3 + 2 * (i + k)) c.1 ∧ slt mem B (4 + 2 * (i + k)) c.2.2 ∧ mem (B + 3) (i + k) = c.2.1
section GRD
variable {d : Nat} {P : qE → Prop} {X : qH} {sw : Bool} {o : Int64} {e : List Nat} {N : Nat} {K V : Nat → Int32} {S : Nat → Nat} {B : Nat}
theorem q_low (i : Nat) : (3 : Int32) + 2 * qi i = qi (3 + 2 * i) := by
  rw [show (2 : Int32) = qi 2 from rfl, qi_mul, show (3 : Int32) = qi 3 from rfl, qi_add]
/-- one condition: both values and the sign between them -/
theorem rdCond {i n : Nat} {mem : Nat → Nat → Int32} {a2 : Int32} (hX : X.length = 13) (hB : kBl B) (hB1 : 35 < B) (hi : i < 6) (ha : ¬ a2 = 0) (ht : qTk mem N K S V) (hn : mem 31 4 = qi n) (hN : n ≤ N)
    (k1 : ∀ m' v w n1 n2, pv K V n = (some v, n1) → (K n1 = 60 ∨ K n1 = 61) → pv K V (n1 + 1) = (some w, n2) → n2 ≤ N → m' 31 4 = qi n2 → (∀ j q, ¬ (j = 31 ∧ q = 4) → ¬ (j = B + 3 ∧ q = i) → ¬ (B + 4 ≤ j ∧ j < B + 7 ∧ 3 + 2 * i ≤ q ∧ q < 5 + 2 * i) → m' j q = mem j q) → slt m' B (3 + 2 * i) v → slt m' B (4 + 2 * i) w → m' (B + 3) i = (if K n1 = 60 then 1 else 0) → QW (d + 1 + 1) mRd_readConditions 75 (lRd_readConditions_75 a2 (qi i) B) [.int 1] (hpo X m' sw o e) P)
    (k0 : ∀ m' n', ((pv K V n = (none, n')) ∨ (∃ v, pv K V n = (some v, n') ∧ ¬ (K n' = 60 ∨ K n' = 61)) ∨ (∃ v n1, pv K V n = (some v, n1) ∧ (K n1 = 60 ∨ K n1 = 61) ∧ pv K V (n1 + 1) = (none, n'))) → n' ≤ N → m' 31 4 = qi n' → (∀ j q, ¬ (j = 31 ∧ q = 4) → ¬ (j = B + 3 ∧ q = i) → ¬ (B + 4 ≤ j ∧ j < B + 7 ∧ 3 + 2 * i ≤ q ∧ q < 5 + 2 * i) → m' j q = mem j q) → P (.inl (some (.int 0)), hpo X m' sw o e)) :
    QW (d + 1 + 1) mRd_readConditions 4 (lRd_readConditions_4 a2 (qi i) B) [] (hpo X mem sw o e) P := by
  have hi3 : ¬ (6 : Int32) ≤ qi i := fun z => by have := (qi_le (a := 6) (by omega) (by omega)).mp z; omega
  refine bRd_readConditions_4 hX hB (fun z => absurd z hi3) (fun _ z => absurd z ha) (fun _ _ => bBl_lowSlot_0 hX (qcl_i (bRd_readConditions_20 hX hB ?_)))
  rw [q_low]
  refine rdVal hX hB hB1 (by omega) ht hn hN ?_ ?_
  · intro m1 v n1 h1 h2 h3 h4 h5
    have ht1 : qTk m1 N K S V := qTk_mono (h4 _ _ (by omega) (by omega)) (fun j q a b => h4 _ _ (by omega) (by omega)) ht
    refine qcl_i (bRd_readConditions_23 hX hB (fun _ => cTok_take hX ht1 h3 h2 (by decide) (fun x y => ?_) (fun x => ?_)) (fun z => absurd z (by decide)))
    · -- <
      refine qcl_i (bRd_readConditions_42 hX hB (qi_inx hi (by omega)) (by decide) (qi_inx hi (by omega)) (fun _ => ?_) (fun z => ?_))
      · rw [qi_N (by omega)]
        have hfr : ∀ j q, ¬ (j = 31 ∧ q = 4) → ¬ (j = B + 3 ∧ q = i) → mup (mup m1 31 4 (qi (n1 + 1))) (B + 3) i 1 j q = m1 j q := fun j q a b => by (repeat (rw [mup_q]; first | rw [if_pos (by omega)] | rw [if_neg (by omega)]))
        have hat : mup (mup m1 31 4 (qi (n1 + 1))) (B + 3) i 1 31 4 = qi (n1 + 1) := by (repeat (rw [mup_q]; first | rw [if_pos (by omega)] | rw [if_neg (by omega)]))
        have hle : mup (mup m1 31 4 (qi (n1 + 1))) (B + 3) i 1 (B + 3) i = 1 := by (repeat (rw [mup_q]; first | rw [if_pos (by omega)] | rw [if_neg (by omega)]))
        generalize mup (mup m1 31 4 (qi (n1 + 1))) (B + 3) i 1 = m2 at hfr hat hle ⊢
        have ht2 : qTk m2 N K S V := qTk_mono (hfr _ _ (by omega) (by omega)) (fun j q a b => hfr _ _ (by omega) (by omega)) ht1
        refine bRd_readConditions_66 hX hB (bBl_highSlot_0 hX (bBl_lowSlot_0 hX (qcl_i (bBl_highSlot_4 hX (qcl_i (bRd_readConditions_72 hX hB ?_))))))
        rw [q_low, qi_1, show 3 + 2 * i + 1 = 4 + 2 * i by omega]
        refine rdVal hX hB hB1 (by omega) ht2 hat (by omega) ?_ ?_
        · intro m3 w n2 g1 g2 g3 g4 g5
          refine qcl_i (k1 m3 v w n1 n2 h1 (Or.inl x) g1 g2 g3 (fun j q a b c => ?_) ⟨?_, ?_, ?_⟩ g5 ?_)
          · rw [g4 j q a (by omega), hfr j q a b, h4 j q a (by omega)]
          · rw [g4 _ _ (by omega) (by omega), hfr _ _ (by omega) (by omega)]; exact h5.1
          · rw [g4 _ _ (by omega) (by omega), hfr _ _ (by omega) (by omega)]; exact h5.2.1
          · rw [g4 _ _ (by omega) (by omega), hfr _ _ (by omega) (by omega)]; exact h5.2.2
          · rw [g4 _ _ (by omega) (by omega), if_pos x]; exact hle
        · intro m3 n2 g1 g2 g3 g4
          refine qcl_i (bRd_readConditions_75 hX hB (fun z => absurd rfl z) (fun z => absurd rfl z) (fun _ => k0 m3 n2 (Or.inr (Or.inr ⟨v, n1, h1, Or.inl x, g1⟩)) g2 g3 (fun j q a b c => ?_)))
          rw [g4 j q a (by omega), hfr j q a b, h4 j q a (by omega)]
      · rw [qi_N (by omega), mup_at] at z
        exact absurd z (by decide)
    · -- no <
      refine qcl_i (bRd_readConditions_42 hX hB (qi_inx hi (by omega)) (by decide) (qi_inx hi (by omega)) (fun z => ?_) (fun _ => ?_))
      · rw [qi_N (by omega), mup_at] at z
        exact absurd rfl z
      · rw [qi_N (by omega)]
        have hfr : ∀ j q, ¬ (j = B + 3 ∧ q = i) → mup m1 (B + 3) i 0 j q = m1 j q := fun j q b => by (repeat (rw [mup_q]; first | rw [if_pos (by omega)] | rw [if_neg (by omega)]))
        have hle : mup m1 (B + 3) i 0 (B + 3) i = 0 := by (repeat (rw [mup_q]; first | rw [if_pos (by omega)] | rw [if_neg (by omega)]))
        generalize mup m1 (B + 3) i 0 = m2 at hfr hle ⊢
        have ht2 : qTk m2 N K S V := qTk_mono (hfr _ _ (by omega)) (fun j q a b => hfr _ _ (by omega)) ht1
        refine cTok_take (n := n1) hX ht2 (by rw [hfr _ _ (by omega)]; exact h3) h2 (by decide) (fun x2 y2 => ?_) (fun x2 => ?_)
        · have ht3 := qTk_at (qi (n1 + 1)) ht2
          refine qcl_i (bRd_readConditions_61 hX hB (fun _ => bRd_readConditions_66 hX hB (bBl_highSlot_0 hX (bBl_lowSlot_0 hX (qcl_i (bBl_highSlot_4 hX (qcl_i (bRd_readConditions_72 hX hB ?_))))))) (fun z => absurd z (by decide)))
          rw [q_low, qi_1, show 3 + 2 * i + 1 = 4 + 2 * i by omega]
          have hfr2 : ∀ j q, ¬ (j = 31 ∧ q = 4) → mup m2 31 4 (qi (n1 + 1)) j q = m2 j q := fun j q b => by (repeat (rw [mup_q]; first | rw [if_pos (by omega)] | rw [if_neg (by omega)]))
          refine rdVal hX hB hB1 (by omega) ht3 (mup_at _ _ _ _) (by omega) ?_ ?_
          · intro m3 w n2 g1 g2 g3 g4 g5
            refine qcl_i (k1 m3 v w n1 n2 h1 (Or.inr x2) g1 g2 g3 (fun j q a b c => ?_) ⟨?_, ?_, ?_⟩ g5 ?_)
            · rw [g4 j q a (by omega), hfr2 j q a, hfr j q b, h4 j q a (by omega)]
            · rw [g4 _ _ (by omega) (by omega), hfr2 _ _ (by omega), hfr _ _ (by omega)]; exact h5.1
            · rw [g4 _ _ (by omega) (by omega), hfr2 _ _ (by omega), hfr _ _ (by omega)]; exact h5.2.1
            · rw [g4 _ _ (by omega) (by omega), hfr2 _ _ (by omega), hfr _ _ (by omega)]; exact h5.2.2
            · rw [g4 _ _ (by omega) (by omega), hfr2 _ _ (by omega), if_neg x]; exact hle
          · intro m3 n2 g1 g2 g3 g4
            refine qcl_i (bRd_readConditions_75 hX hB (fun z => absurd rfl z) (fun z => absurd rfl z) (fun _ => k0 m3 n2 (Or.inr (Or.inr ⟨v, n1, h1, Or.inr x2, g1⟩)) g2 g3 (fun j q a b c => ?_)))
            rw [g4 j q a (by omega), hfr2 j q a, hfr j q b, h4 j q a (by omega)]
        · refine qcl_i (bRd_readConditions_61 hX hB (fun z => absurd rfl z) (fun _ => k0 m2 n1 (Or.inr (Or.inl ⟨v, h1, fun z => z.elim x x2⟩)) h2 (by rw [hfr _ _ (by omega)]; exact h3) (fun j q a b c => ?_)))
          rw [hfr j q b, h4 j q a (by omega)]
  · intro m1 n1 h1 h2 h3 h4
    exact qcl_i (bRd_readConditions_23 hX hB (fun z => absurd rfl z) (fun _ => k0 m1 n1 (Or.inl h1) h2 h3 (fun j q a b c => h4 j q a (by omega))))
theorem slt_mono {mem mem' : Nat → Nat → Int32} {s : Nat} {v : Int32 × Int32} (h : slt mem B s v) (e1 : ∀ j, B + 4 ≤ j → j < B + 7 → mem' j s = mem j s) : slt mem' B s v := ⟨by rw [e1 _ (by omega) (by omega)]; exact h.1, by rw [e1 _ (by omega) (by omega)]; exact h.2.1, by rw [e1 _ (by omega) (by omega)]; exact h.2.2⟩
theorem rdCon (hX : X.length = 13) (hB : kBl B) (hB1 : 35 < B) : ∀ (f i n : Nat) (mem : Nat → Nat → Int32), i + (f + 1) = 6 → qTk mem N K S V → mem 31 4 = qi n → n ≤ N → mem B 3 = qi i →
    (∀ m' l n', pcs K V (f + 1) n = (some l, n') → n' ≤ N → m' 31 4 = qi n' → (∀ j q, ¬ (j = 31 ∧ q = 4) → ¬ (j = B ∧ q = 3) → ¬ (j = B + 3 ∧ i ≤ q) → ¬ (B + 4 ≤ j ∧ j < B + 7 ∧ 3 + 2 * i ≤ q) → m' j q = mem j q) → m' B 3 = qi (i + l.length) → l.length ≤ f + 1 → cds m' B i l → P (.inl (some (.int 1)), hpo X m' sw o e)) →
    (∀ m' n', pcs K V (f + 1) n = (none, n') → n' ≤ N → m' 31 4 = qi n' → (∀ j q, ¬ (j = 31 ∧ q = 4) → ¬ (j = B ∧ q = 3) → ¬ (j = B + 3 ∧ i ≤ q) → ¬ (B + 4 ≤ j ∧ j < B + 7 ∧ 3 + 2 * i ≤ q) → m' j q = mem j q) → P (.inl (some (.int 0)), hpo X m' sw o e)) →
    QW (d + 1 + 1) mRd_readConditions 4 (lRd_readConditions_4 1 (qi i) B) [] (hpo X mem sw o e) P := by
  intro f
  induction f with
  | zero =>
    intro i n mem hi ht hn hN hc k1 k0
    obtain rfl : i = 5 := by omega
    refine rdCond hX hB hB1 (by omega) (by decide) ht hn hN ?_ ?_
    · intro m' v w n1 n2 h1 h2 h3 h4 h5 h6 h7 h8 h9
      refine bRd_readConditions_75 hX hB (fun _ _ => ?_) (fun _ z => absurd (by decide) z) (fun z => absurd z (by decide))
      have hm : m' B 3 = qi 5 := by rw [h6 _ _ (by omega) (by omega) (by omega)]; exact hc
      rw [hm]
      refine bRd_readConditions_114 hX hB (bRd_readConditions_115 hX hB (bRd_readConditions_4 hX hB (fun _ => ?_) (fun z => absurd (by decide) z) (fun z => absurd (by decide) z)))
      refine k1 _ [(v, (if K n1 = 60 then 1 else 0), w)] n2 (by simp [pcs, h1, h2, h3]) h4 (by (repeat (rw [mup_q]; first | rw [if_pos (by omega)] | rw [if_neg (by omega)])); exact h5) (fun j q a b c dd => by (repeat (rw [mup_q]; first | rw [if_pos (by omega)] | rw [if_neg (by omega)])); exact h6 j q a (by omega) (by omega)) (by (repeat (rw [mup_q]; first | rw [if_pos (by omega)] | rw [if_neg (by omega)])); rfl) (by simp) ?_
      intro k c hk
      rcases k with _ | k
      · cases hk
        exact ⟨slt_mono h7 (fun j a b => by (repeat (rw [mup_q]; first | rw [if_pos (by omega)] | rw [if_neg (by omega)]))), slt_mono h8 (fun j a b => by (repeat (rw [mup_q]; first | rw [if_pos (by omega)] | rw [if_neg (by omega)]))), by (repeat (rw [mup_q]; first | rw [if_pos (by omega)] | rw [if_neg (by omega)])); exact h9⟩
      · simp at hk
    · intro m' n' h1 h2 h3 h4
      refine k0 m' n' ?_ h2 h3 (fun j q a b c dd => h4 j q a (by omega) (by omega))
      rcases h1 with h1 | ⟨v, h1, h1'⟩ | ⟨v, n1, h1, h1', h1''⟩
      · simp [pcs, h1]
      · simp only [pcs, h1]; rw [if_neg h1']
      · simp only [pcs, h1]; rw [if_pos h1', h1'']
  | succ f ih =>
    intro i n mem hi ht hn hN hc k1 k0
    have hi4 : ¬ (6 : Int32) ≤ qi i + 1 := fun z => by rw [qi_1] at z; have := (qi_le (a := 6) (by omega) (by omega)).mp z; omega
    refine rdCond hX hB hB1 (by omega) (by decide) ht hn hN ?_ ?_
    · intro m1 v w n1 n2 h1 h2 h3 h4 h5 h6 h7 h8 h9
      have hm : m1 B 3 = qi i := by rw [h6 _ _ (by omega) (by omega) (by omega)]; exact hc
      have hfr : ∀ j q, ¬ (j = B ∧ q = 3) → mup m1 B 3 (m1 B 3 + 1) j q = m1 j q := fun j q a => by (repeat (rw [mup_q]; first | rw [if_pos (by omega)] | rw [if_neg (by omega)]))
      have hB3 : mup m1 B 3 (m1 B 3 + 1) B 3 = qi (i + 1) := by (repeat (rw [mup_q]; first | rw [if_pos (by omega)] | rw [if_neg (by omega)])); rw [hm, qi_1]
      refine bRd_readConditions_75 hX hB (fun _ z => absurd z hi4) (fun _ _ => ?_) (fun z => absurd z (by decide))
      generalize mup m1 B 3 (m1 B 3 + 1) = m2 at hfr hB3 ⊢
      have ht2 : qTk m2 N K S V := qTk_mono (by rw [hfr _ _ (by omega)]; exact h6 _ _ (by omega) (by omega) (by omega)) (fun j q a b => by rw [hfr _ _ (by omega)]; exact h6 _ _ (by omega) (by omega) (by omega)) ht
      have hn2 : m2 31 4 = qi n2 := by rw [hfr _ _ (by omega)]; exact h5
      refine cTok_take hX ht2 hn2 h4 (by decide) (fun x y => ?_) (fun x => ?_)
      · refine qcl_i (bRd_readConditions_107 hX hB (fun z => absurd z (by decide)) (fun _ => bRd_readConditions_115 hX hB ?_))
        rw [qi_1]
        have hfr2 : ∀ j q, ¬ (j = 31 ∧ q = 4) → mup m2 31 4 (qi (n2 + 1)) j q = m2 j q := fun j q a => by (repeat (rw [mup_q]; first | rw [if_pos (by omega)] | rw [if_neg (by omega)]))
        refine ih (i + 1) (n2 + 1) _ (by omega) (qTk_at _ ht2) (mup_at _ _ _ _) (by omega) (by rw [hfr2 _ _ (by omega)]; exact hB3) ?_ ?_
        · intro m3 l n3 g1 g2 g3 g4 g5 g6 g7
          refine k1 m3 ((v, (if K n1 = 60 then 1 else 0), w) :: l) n3 (by rw [pcs]; simp only [h1, h3]; rw [if_pos h2, if_pos ⟨by omega, x⟩, g1]) g2 g3 (fun j q a b c dd => ?_) (by rw [g5, List.length_cons]; congr 1; omega) (by simp; omega) ?_
          · rw [g4 j q a b (by omega) (by omega), hfr2 j q a, hfr j q b, h6 j q a (by omega) (by omega)]
          · intro k c hk
            rcases k with _ | k
            · cases hk
              refine ⟨slt_mono h7 (fun j a b => ?_), slt_mono h8 (fun j a b => ?_), ?_⟩
              · rw [g4 _ _ (by omega) (by omega) (by omega) (by omega), hfr2 _ _ (by omega), hfr _ _ (by omega)]
              · rw [g4 _ _ (by omega) (by omega) (by omega) (by omega), hfr2 _ _ (by omega), hfr _ _ (by omega)]
              · rw [g4 _ _ (by omega) (by omega) (by omega) (by omega), hfr2 _ _ (by omega), hfr _ _ (by omega)]; exact h9
            · have := g7 k c (by simpa using hk)
              rw [show i + (k + 1) = i + 1 + k by omega]
              exact this
        · intro m3 n3 g1 g2 g3 g4
          refine k0 m3 n3 (by rw [pcs]; simp only [h1, h3]; rw [if_pos h2, if_pos ⟨by omega, x⟩, g1]) g2 g3 (fun j q a b c dd => ?_)
          rw [g4 j q a b (by omega) (by omega), hfr2 j q a, hfr j q b, h6 j q a (by omega) (by omega)]
      · have fin : P (.inl (some (.int 1)), hpo X m2 sw o e) := by
          refine k1 m2 [(v, (if K n1 = 60 then 1 else 0), w)] n2 (by rw [pcs]; simp only [h1, h3]; rw [if_pos h2, if_neg (fun z => x z.2)]) h4 hn2 (fun j q a b c dd => by rw [hfr j q b, h6 j q a (by omega) (by omega)]) hB3 (by simp) ?_
          intro k c hk
          rcases k with _ | k
          · cases hk
            exact ⟨slt_mono h7 (fun j a b => hfr _ _ (by omega)), slt_mono h8 (fun j a b => hfr _ _ (by omega)), by rw [hfr _ _ (by omega)]; exact h9⟩
          · simp at hk
        refine qcl_i (bRd_readConditions_107 hX hB (fun _ => bRd_readConditions_114 hX hB (bRd_readConditions_115 hX hB ?_)) (fun z => absurd rfl z))
        exact bRd_readConditions_4 hX hB (fun _ => fin) (fun _ _ => fin) (fun _ z => absurd rfl z)
    · intro m' n' h1 h2 h3 h4
      refine k0 m' n' ?_ h2 h3 (fun j q a b c dd => h4 j q a (by omega) (by omega))
      rcases h1 with h1 | ⟨v, h1, h1'⟩ | ⟨v, n1, h1, h1', h1''⟩
      · rw [pcs]; simp only [h1]
      · rw [pcs]; simp only [h1]; rw [if_neg h1']
      · rw [pcs]; simp only [h1]; rw [if_pos h1', h1'']
/-- whether a block may end at token n -/
def bhd (K : Nat → Int32) (n : Nat) : Prop := K n = 0 ∨ K n = 43 ∨ K n = 45 ∨ K n = 94
theorem cRd_isBehindBlock {n : Nat} {mem : Nat → Nat → Int32} (hX : X.length = 13) (ht : qTk mem N K S V) (hn : mem 31 4 = qi n) (hN : n ≤ N) (k1 : bhd K n → P (.inl (some (.int 1)), hpo X mem sw o e)) (k0 : ¬ bhd K n → P (.inl (some (.int 0)), hpo X mem sw o e)) : QW (d + 1) mRd_isBehindBlock 0 (qen 1 [.ref 30]) [] (hpo X mem sw o e) P := by
  refine bRd_isBehindBlock_0 hX (cTok_is hX ht hn hN (fun x => ?_) (fun x => ?_))
  · exact qcl_i (bRd_isBehindBlock_8 hX (fun _ => bRd_isBehindBlock_47 hX (k1 (Or.inl x))) (fun z => absurd z (by decide)))
  · refine qcl_i (bRd_isBehindBlock_8 hX (fun z => absurd rfl z) (fun _ => cTok_is hX ht hn hN (fun x1 => ?_) (fun x1 => ?_)))
    · exact qcl_i (bRd_isBehindBlock_20 hX (fun _ => bRd_isBehindBlock_47 hX (k1 (Or.inr (Or.inl x1)))) (fun z => absurd z (by decide)))
    · refine qcl_i (bRd_isBehindBlock_20 hX (fun z => absurd rfl z) (fun _ => cTok_is hX ht hn hN (fun x2 => ?_) (fun x2 => ?_)))
      · exact qcl_i (bRd_isBehindBlock_32 hX (fun _ => bRd_isBehindBlock_47 hX (k1 (Or.inr (Or.inr (Or.inl x2))))) (fun z => absurd z (by decide)))
      · refine qcl_i (bRd_isBehindBlock_32 hX (fun z => absurd rfl z) (fun _ => cTok_is hX ht hn hN (fun x3 => ?_) (fun x3 => ?_)))
        · exact qcl_i (bRd_isBehindBlock_44 hX (fun z => absurd z (by decide)) (fun _ => bRd_isBehindBlock_47 hX (k1 (Or.inr (Or.inr (Or.inr x3))))))
        · refine qcl_i (bRd_isBehindBlock_44 hX (fun _ => k0 ?_) (fun z => absurd rfl z))
          rintro (z | z | z | z)
          · exact x z
          · exact x1 z
          · exact x2 z
          · exact x3 z
end GRD
