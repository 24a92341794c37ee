abbrev qV : Type := Int32 × Int32
abbrev qBk : Type := Int32 × List qV × List qV × List (qV × Int32 × qV)
def pbl (c : Int32) (K V : Nat → Int32) (n : Nat) : Option qBk × Nat :=
  if K (if K n = 6 then n + 1 else n) = 7 then (match pls K V 3 ((if K n = 6 then n + 1 else n) + 1) with
    | (none, n1) => (none, n1)
    | (some lo, n1) => if K n1 = 8 then (match psr c K V 4 (n1 + 1) [] with
      | (none, n2) => (none, n2)
      | (some ls, n2) => if K n2 = 9 then (match pcs K V 6 (n2 + 1) with
        | (none, n3) => (none, n3)
        | (some lc, n3) => (some ((if K n = 6 then 1 else 0), lo, ls, lc), n3)) else (some ((if K n = 6 then 1 else 0), lo, ls, []), n2)) else (none, n1)) else (none, if K n = 6 then n + 1 else n)
/-- a block that was read, in the cells at B -/
def blk (m : Nat → Nat → Int32) (B : Nat) (b : qBk) : Prop := m B 0 = b.1 ∧ m B 1 = qi b.2.1.length ∧ (1 ≤ b.2.1.length ∧ b.2.1.length ≤ 3) ∧ (∀ k v, b.2.1[k]? = some v → slt m B k v) ∧ srs m B b.2.2.1 ∧ (1 ≤ b.2.2.1.length ∧ b.2.2.1.length ≤ 4) ∧ m B 3 = qi b.2.2.2.length ∧ b.2.2.2.length ≤ 6 ∧ (∀ k c, b.2.2.2[k]? = some c → slt m B (3 + 2 * k) c.1 ∧ slt m B (4 + 2 * k) c.2.2 ∧ m (B + 3) k = c.2.1)
section GRE
variable {d : Nat} {P : qE → Prop} {X : qH} {sw : Bool} {o : Int64} {e : List Nat} {N : Nat} {K V : Nat → Int32} {S : Nat → Nat} {B : Nat}
theorem cRd_readBlock {cnt n : Nat} {mem : Nat → Nat → Int32} (hX : X.length = 13) (hB : kBl B) (hB1 : 35 < B) (ht : qTk mem N K S V) (hn : mem 31 4 = qi n) (hN : n ≤ N) (hc : mem 14 1 = qi cnt)
    (k1 : ∀ m' b n', pbl (qi cnt) K V n = (some b, n') → n' ≤ N → m' 31 4 = qi n' → (∀ j q, ¬ (j = 31 ∧ q = 4) → ¬ (B ≤ j ∧ j < B + 7) → m' j q = mem j q) → blk m' B b → P (.inl (some (.int 1)), hpo X m' sw o e))
    (k0 : ∀ m' n', pbl (qi cnt) K V n = (none, n') → n' ≤ N → m' 31 4 = qi n' → (∀ j q, ¬ (j = 31 ∧ q = 4) → ¬ (B ≤ j ∧ j < B + 7) → m' j q = mem j q) → P (.inl (some (.int 0)), hpo X m' sw o e)) :
    QW (d + 1 + 1 + 1) mRd_readBlock 0 (qen 3 [.ref 30, .ref B, .ref 14]) [] (hpo X mem sw o e) P := by
  refine bRd_readBlock_0 hX hB (bBl_clear_0 hX hB (qcl_v ?_))
  have hfr0 : ∀ j q, ¬ (j = B ∧ q < 4) → mup (mup (mup (mup mem B 0 0) B 1 0) B 2 0) B 3 0 j q = mem j q := fun j q a => by (repeat (rw [mup_q]; first | rw [if_pos (by omega)] | rw [if_neg (by omega)]))
  have b1 : mup (mup (mup (mup mem B 0 0) B 1 0) B 2 0) B 3 0 B 1 = 0 := by (repeat (rw [mup_q]; first | rw [if_pos (by omega)] | rw [if_neg (by omega)]))
  have b2 : mup (mup (mup (mup mem B 0 0) B 1 0) B 2 0) B 3 0 B 2 = 0 := by (repeat (rw [mup_q]; first | rw [if_pos (by omega)] | rw [if_neg (by omega)]))
  have b3 : mup (mup (mup (mup mem B 0 0) B 1 0) B 2 0) B 3 0 B 3 = 0 := by (repeat (rw [mup_q]; first | rw [if_pos (by omega)] | rw [if_neg (by omega)]))
  generalize mup (mup (mup (mup mem B 0 0) B 1 0) B 2 0) B 3 0 = m0 at hfr0 b1 b2 b3 ⊢
  have ht0 : qTk m0 N K S V := qTk_mono (hfr0 _ _ (by omega)) (fun j q a b => hfr0 _ _ (by omega)) ht
  have hn0 : m0 31 4 = qi n := by rw [hfr0 _ _ (by omega)]; exact hn
  have main : ∀ (s : Int32) (n0 : Nat) (m : Nat → Nat → Int32), (if K n = 6 then (1 : Int32) else 0) = s → (if K n = 6 then n + 1 else n) = n0 → (s = 0 ∨ s = 1) → n0 ≤ N → m 31 4 = qi n0 → (∀ j q, ¬ (j = 31 ∧ q = 4) → m j q = m0 j q) → QW (d + 1 + 1 + 1) mRd_readBlock 14 (lRd_readBlock_14 B) [.int s, .ref B] (hpo X m sw o e) P := by
    intro s n0 m hs hn0' hs01 hN0 hm hfm
    have htm : qTk m N K S V := qTk_mono (hfm _ _ (by omega)) (fun j q a b => hfm _ _ (by omega)) ht0
    refine bRd_readBlock_14 hX hB (by rcases hs01 with rfl | rfl <;> decide) (by rcases hs01 with rfl | rfl <;> decide) ?_
    have hfr1 : ∀ j q, ¬ (j = B ∧ q = 0) → mup m B 0 s j q = m j q := fun j q a => by (repeat (rw [mup_q]; first | rw [if_pos (by omega)] | rw [if_neg (by omega)]))
    have c0 : mup m B 0 s B 0 = s := mup_at _ _ _ _
    generalize mup m B 0 s = m1 at hfr1 c0 ⊢
    have ht1 : qTk m1 N K S V := qTk_mono (hfr1 _ _ (by omega)) (fun j q a b => hfr1 _ _ (by omega)) htm
    have hn1 : m1 31 4 = qi n0 := by rw [hfr1 _ _ (by omega)]; exact hm
    have all1 : ∀ j q, ¬ (j = 31 ∧ q = 4) → ¬ (B ≤ j ∧ j < B + 7) → m1 j q = mem j q := fun j q a b => by rw [hfr1 j q (by omega), hfm j q a, hfr0 j q (by omega)]
    refine cTok_take hX ht1 hn1 hN0 (by decide) (fun x1 y1 => ?_) (fun x1 => ?_)
    · refine qcl_i (bRd_readBlock_26 hX hB (fun z => absurd z (by decide)) (fun _ => bRd_readOutputs_0 hX hB ?_))
      refine rdOut hX hB hB1 2 0 (n0 + 1) _ (by omega) (qTk_at _ ht1) (mup_at _ _ _ _) (by omega) (by rw [mup_ce (by omega), hfr1 _ _ (by omega), hfm _ _ (by omega), b1]; rfl) ?_ ?_
      · intro m2 lo n2 g1 g2 g3 g4 g5 g6 g7 g8
        have all2 : ∀ j q, ¬ (j = 31 ∧ q = 4) → ¬ (j = B ∧ q = 1) → ¬ (B + 4 ≤ j ∧ j < B + 7 ∧ q < 3) → m2 j q = m1 j q := fun j q a b c => by rw [g4 j q a b (by omega)]; (repeat (rw [mup_q]; first | rw [if_pos (by omega)] | rw [if_neg (by omega)]))
        have ht2 : qTk m2 N K S V := qTk_mono (all2 _ _ (by omega) (by omega) (by omega)) (fun j q a b => all2 _ _ (by omega) (by omega) (by omega)) ht1
        refine qcl_i (bRd_readBlock_34 hX hB (fun z => absurd z (by decide)) (fun _ => cTok_take hX ht2 g3 g2 (by decide) (fun x2 y2 => ?_) (fun x2 => ?_)))
        · refine qcl_i (bRd_readBlock_46 hX hB (fun z => absurd z (by decide)) (fun _ => bRd_readSources_0 hX hB ?_))
          refine rdSrc (cnt := cnt) hX hB hB1 3 (n2 + 1) [] _ .unset .unset (Or.inl rfl) (Or.inl rfl) rfl (qTk_at _ ht2) (mup_at _ _ _ _) (by omega) ⟨?_, fun k v hk => by simp at hk⟩ ?_ ?_ ?_
          · rw [mup_ce (by omega), all2 _ _ (by omega) (by omega) (by omega), hfr1 _ _ (by omega), hfm _ _ (by omega), b2]; rfl
          · rw [mup_ce (by omega), all2 _ _ (by omega) (by omega) (by omega), all1 _ _ (by omega) (by omega)]; exact hc
          · intro m3 ls n3 f1 f2 f3 f4 f5 f6 f7
            have all3 : ∀ j q, ¬ (j = 31 ∧ q = 4) → ¬ (j = B ∧ q = 2) → ¬ (B + 1 ≤ j ∧ j < B + 3) → m3 j q = m2 j q := fun j q a b c => by rw [f4 j q a b c]; (repeat (rw [mup_q]; first | rw [if_pos (by omega)] | rw [if_neg (by omega)]))
            have ht3 : qTk m3 N K S V := qTk_mono (all3 _ _ (by omega) (by omega) (by omega)) (fun j q a b => all3 _ _ (by omega) (by omega) (by omega)) ht2
            refine qcl_i (bRd_readBlock_55 hX hB (fun z => absurd z (by decide)) (fun _ => cTok_take hX ht3 f3 f2 (by decide) (fun x3 y3 => ?_) (fun x3 => ?_)))
            · refine qcl_i (bRd_readBlock_67 hX hB (fun z => absurd z (by decide)) (fun _ => bRd_readConditions_0 hX hB ?_))
              refine rdCon hX hB hB1 5 0 (n3 + 1) _ (by omega) (qTk_at _ ht3) (mup_at _ _ _ _) (by omega) ?_ ?_ ?_
              · rw [mup_ce (by omega), all3 _ _ (by omega) (by omega) (by omega), all2 _ _ (by omega) (by omega) (by omega), hfr1 _ _ (by omega), hfm _ _ (by omega), b3]; rfl
              · intro m4 lc n4 e1 e2 e3 e4 e5 e6 e7
                have all4 : ∀ j q, ¬ (j = 31 ∧ q = 4) → ¬ (j = B ∧ q = 3) → ¬ (j = B + 3) → ¬ (B + 4 ≤ j ∧ j < B + 7 ∧ 3 ≤ q) → m4 j q = m3 j q := fun j q a b c dd => by rw [e4 j q a b (by omega) (by omega)]; (repeat (rw [mup_q]; first | rw [if_pos (by omega)] | rw [if_neg (by omega)]))
                refine qcl_i (bRd_readBlock_75 hX hB (fun z => absurd z (by decide)) (fun _ => bRd_readBlock_78 hX hB (k1 m4 (s, lo, ls, lc) n4 ?_ e2 e3 (fun j q a b => ?_) ⟨?_, ?_, ⟨g6, by omega⟩, ?_, ?_, ⟨f6, f7⟩, ?_, by simpa using e6, ?_⟩)))
                · rw [pbl, hn0', if_pos x1, g1, hs]; simp only; rw [if_pos x2, f1]; simp only; rw [if_pos x3, e1]
                · rw [all4 j q a (by omega) (by omega) (by omega), all3 j q a (by omega) (by omega), all2 j q a (by omega) (by omega), all1 j q a b]
                · rw [all4 _ _ (by omega) (by omega) (by omega) (by omega), all3 _ _ (by omega) (by omega) (by omega), all2 _ _ (by omega) (by omega) (by omega)]; exact c0
                · rw [all4 _ _ (by omega) (by omega) (by omega) (by omega), all3 _ _ (by omega) (by omega) (by omega), g5]; simp
                · intro k v hk
                  have hk3 : k < 3 := by
                    obtain ⟨h', _⟩ := List.getElem?_eq_some_iff.mp hk
                    have h'' : k < lo.length := h'
                    omega
                  have := g8 k v hk
                  rw [Nat.zero_add] at this
                  exact slt_mono (mem := m2) this (fun j a b => by rw [all4 _ _ (by omega) (by omega) (by omega) (by omega), all3 _ _ (by omega) (by omega) (by omega)])
                · exact srs_mono f5 (all4 _ _ (by omega) (by omega) (by omega) (by omega)) (fun q => all4 _ _ (by omega) (by omega) (by omega) (by omega)) (fun q => all4 _ _ (by omega) (by omega) (by omega) (by omega))
                · rw [e5]; simp
                · intro k c hk
                  have := e7 k c hk
                  rw [Nat.zero_add] at this
                  exact this
              · intro m4 n4 e1 e2 e3 e4
                refine qcl_i (bRd_readBlock_75 hX hB (fun _ => k0 m4 n4 ?_ e2 e3 (fun j q a b => ?_)) (fun z => absurd rfl z))
                · rw [pbl, hn0', if_pos x1, g1, hs]; simp only; rw [if_pos x2, f1]; simp only; rw [if_pos x3, e1]
                · rw [e4 j q a (by omega) (by omega) (by omega)]
                  (repeat (rw [mup_q]; first | rw [if_pos (by omega)] | rw [if_neg (by omega)]))
                  rw [all3 j q a (by omega) (by omega), all2 j q a (by omega) (by omega), all1 j q a b]
            · refine qcl_i (bRd_readBlock_67 hX hB (fun _ => bRd_readBlock_78 hX hB (k1 m3 (s, lo, ls, []) n3 ?_ f2 f3 (fun j q a b => ?_) ⟨?_, ?_, ⟨g6, by omega⟩, ?_, f5, ⟨f6, f7⟩, ?_, by simp, ?_⟩)) (fun z => absurd rfl z))
              · rw [pbl, hn0', if_pos x1, g1, hs]; simp only; rw [if_pos x2, f1]; simp only; rw [if_neg x3]
              · rw [all3 j q a (by omega) (by omega), all2 j q a (by omega) (by omega), all1 j q a b]
              · rw [all3 _ _ (by omega) (by omega) (by omega), all2 _ _ (by omega) (by omega) (by omega)]; exact c0
              · rw [all3 _ _ (by omega) (by omega) (by omega), g5]; simp
              · intro k v hk
                have hk3 : k < 3 := by
                  obtain ⟨h', _⟩ := List.getElem?_eq_some_iff.mp hk
                  have h'' : k < lo.length := h'
                  omega
                have := g8 k v hk
                rw [Nat.zero_add] at this
                exact slt_mono (mem := m2) this (fun j a b => by rw [all3 _ _ (by omega) (by omega) (by omega)])
              · rw [all3 _ _ (by omega) (by omega) (by omega), all2 _ _ (by omega) (by omega) (by omega), hfr1 _ _ (by omega), hfm _ _ (by omega), b3]; rfl
              · intro k c hk
                simp at hk
          · intro m3 n3 f1 f2 f3 f4
            refine qcl_i (bRd_readBlock_55 hX hB (fun _ => k0 m3 n3 ?_ f2 f3 (fun j q a b => ?_)) (fun z => absurd rfl z))
            · rw [pbl, hn0', if_pos x1, g1]; simp only; rw [if_pos x2, f1]
            · rw [f4 j q a (by omega) (by omega)]
              (repeat (rw [mup_q]; first | rw [if_pos (by omega)] | rw [if_neg (by omega)]))
              rw [all2 j q a (by omega) (by omega), all1 j q a b]
        · refine qcl_i (bRd_readBlock_46 hX hB (fun _ => k0 m2 n2 ?_ g2 g3 (fun j q a b => ?_)) (fun z => absurd rfl z))
          · rw [pbl, hn0', if_pos x1, g1]; simp only; rw [if_neg x2]
          · rw [all2 j q a (by omega) (by omega), all1 j q a b]
      · intro m2 n2 g1 g2 g3 g4
        refine qcl_i (bRd_readBlock_34 hX hB (fun _ => k0 m2 n2 ?_ g2 g3 (fun j q a b => ?_)) (fun z => absurd rfl z))
        · rw [pbl, hn0', if_pos x1, g1]
        · rw [g4 j q a (by omega) (by omega)]
          (repeat (rw [mup_q]; first | rw [if_pos (by omega)] | rw [if_neg (by omega)]))
          exact all1 j q a b
    · refine qcl_i (bRd_readBlock_26 hX hB (fun _ => k0 m1 n0 ?_ hN0 hn1 all1) (fun z => absurd rfl z))
      rw [pbl, hn0', if_neg x1]
  refine bRd_readBlock_4 hX hB (cTok_take hX ht0 hn0 hN (by decide) (fun x y => ?_) (fun x => ?_))
  · exact qcl_i (main 1 (n + 1) _ (if_pos x) (if_pos x) (Or.inr rfl) (by omega) (mup_at _ _ _ _) (fun j q a => by (repeat (rw [mup_q]; first | rw [if_pos (by omega)] | rw [if_neg (by omega)]))))
  · exact qcl_i (main 0 n _ (if_neg x) (if_neg x) (Or.inl rfl) hN hn0 (fun j q a => rfl))
end GRE
