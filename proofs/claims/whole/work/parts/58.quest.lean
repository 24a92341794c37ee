theorem prd_ok {cnt : Nat} {K V : Nat → Int32} {S : Nat → Nat} {col : Nat → Nat} (h4 : cnt < 2147483648) : ∀ g n w l p, prd (qi cnt) K V S col g n w = (some l, p) → ∀ (k : Nat) (x : qBk × Int32), l[k]? = some x → (∀ (s : Nat) (v : qV), x.1.2.2.1[s]? = some v → ∃ t, t < cnt ∧ v.1 = qi t) ∧ ∀ y, w = some y → x.1.2.1.length = y := by
  intro g
  induction g with
  | zero => intro n w l p h; simp [prd] at h
  | succ g ih =>
    intro n w l p h k x hx
    rw [prd] at h
    split at h
    · simp at h
    · rename_i b n1 hb
      split at h
      · split at h
        · rename_i hw
          have hwy : ∀ y, w = some y → b.2.1.length = y := fun y hy => by
            rcases hw.2 with z | z
            · rw [hy] at z; simp at z
            · rw [hy] at z; simp at z; exact z.symm
          split at h
          · simp at h
            rw [← h.1] at hx
            rcases k with _ | k
            · simp at hx
              subst hx
              exact ⟨pbl_ok h4 hb, hwy⟩
            · simp at hx
          · split at h
            · simp at h
            · split at h
              · simp at h
              · rename_i hr
                simp at h
                rw [← h.1] at hx
                rcases k with _ | k
                · simp at hx
                  subst hx
                  exact ⟨pbl_ok h4 hb, hwy⟩
                · have := ih _ _ _ _ hr k x (by simpa using hx)
                  exact ⟨this.1, fun y hy => (this.2 _ rfl).trans (hwy y hy)⟩
        · simp at h
      · simp at h
theorem prd_w {cnt : Nat} {K V : Nat → Int32} {S : Nat → Nat} {col : Nat → Nat} (h4 : cnt < 2147483648) {g n : Nat} {w : Option Nat} {l : List (qBk × Int32)} {p : Nat} (h : prd (qi cnt) K V S col g n w = (some l, p)) : ∀ (k : Nat) (x y : qBk × Int32), l[k]? = some x → l[0]? = some y → x.1.2.1.length = y.1.2.1.length := by
  rcases g with _ | g
  · simp [prd] at h
  · intro k x y hx hy
    rw [prd] at h
    split at h
    · simp at h
    · rename_i b n1 hb
      split at h
      · split at h
        · split at h
          · simp at h
            rw [← h.1] at hx hy
            rcases k with _ | k
            · rw [hx] at hy; cases hy; rfl
            · simp at hx
          · split at h
            · simp at h
            · split at h
              · simp at h
              · rename_i hr
                simp at h
                rw [← h.1] at hx hy
                rcases k with _ | k
                · rw [hx] at hy; cases hy; rfl
                · simp at hy
                  subst hy
                  exact (prd_ok h4 _ _ _ _ _ hr k x (by simpa using hx)).2 _ rfl
        · simp at h
      · simp at h
/-- class and reference hold the same slot -/
theorem mk_qsl {m : Nat → Nat → Int32} {B sl : Nat} {v : qV} {x r : Int32} {ls : List qV} {tb col : Nat → Nat} (hc3 : ∀ t, t < 4 → col t ≤ 3) (htb : ∀ (s : Nat) (w : qV), ls[s]? = some w → w.1 = qi (tb s) ∧ tb s < 4) (e5 : m (B + 5) sl = x) (e6 : m (B + 6) sl = v.2) (hb : bsl ls col v x) (hr : rok ls col v r) (hv : okv v) : qsl m B sl r ls.length tb col := by
  rcases hb with ⟨h0, hx⟩ | ⟨h0, s, t, c, hx, hf, ht, hc, hcc⟩
  · rcases hr with ⟨_, hr⟩ | ⟨h1, _⟩
    · obtain ⟨b, hb, b1, b2⟩ := enc_num h0 hv
      refine Or.inl ⟨by rw [e5, hx], ?_, ?_, ?_⟩
      · rw [hr, enc, if_pos h0, e6]
      · rw [hr, hb]; exact (qi_lt (a := 1000) (by omega) (by omega)).mpr b1
      · rw [hr, hb]; exact (qi_lt (b := 3000) (by omega) (by omega)).mpr b2
    · exact absurd h0 h1
  · rcases hr with ⟨h1, _⟩ | ⟨_, s', t', c', hf', ht', hc', hcc', hr⟩
    · exact absurd h1 h0
    · obtain ⟨rfl, e⟩ := fsn_u hf hf'
      obtain rfl : t' = t := qi_inj (by omega) (by omega) e
      have := hc3 t' ht
      obtain rfl : c' = c := qi_inj (by omega) (by omega) (hc'.symm.trans hc)
      have hl := (List.getElem?_eq_some_iff.mp hf.1).1
      have htt := htb s' _ hf.1
      have : tb s' = t' := (qi_inj (by omega) (by omega) htt.1).symm
      exact Or.inr ⟨s', c', hl, by rw [this]; exact hcc, by rw [e5, hx], by rw [e6, hc], hr⟩
theorem mk_qB1 {m : Nat → Nat → Int32} {B mb cnt : Nat} {b : qBk} {col : Nat → Nat} (hc4 : cnt ≤ 4) (hc3 : ∀ t, t < 4 → col t ≤ 3) (hls : ∀ (s : Nat) (v : qV), b.2.2.1[s]? = some v → ∃ t, t < cnt ∧ v.1 = qi t) (h : blq m B b col) (h' : mbq m mb b col) : qB1 m B mb cnt col := by
  obtain ⟨a1, a2, a3, a4, a5, a6, a7, a8, a9⟩ := h
  obtain ⟨b1, b2, b3, b4, b5, b6, b7⟩ := h'
  have htb : ∃ tb : Nat → Nat, ∀ (s : Nat) (w : qV), b.2.2.1[s]? = some w → w.1 = qi (tb s) ∧ tb s < cnt := by
    refine ⟨fun s => (b.2.2.1[s]?.getD (0, 0)).1.toNatClampNeg, fun s w hw => ?_⟩
    obtain ⟨t, ht, e⟩ := hls s w hw
    simp only [hw, Option.getD_some]
    rw [e, qi_N (by omega)]
    exact ⟨rfl, ht⟩
  obtain ⟨tb, htb⟩ := htb
  have htb4 : ∀ (s : Nat) (w : qV), b.2.2.1[s]? = some w → w.1 = qi (tb s) ∧ tb s < 4 := fun s w hw => ⟨(htb s w hw).1, by have := (htb s w hw).2; omega⟩
  refine ⟨b.2.1.length, b.2.2.1.length, b.2.2.2.length, tb, a3, a5, a7, a1.trans b1.symm, ⟨a2, b2⟩, ⟨a4.1, b3⟩, ⟨a6, b5⟩, fun k hk => ?_, fun k hk => ?_, fun k hk => ?_⟩
  · have hg : b.2.2.1[k]? = some b.2.2.1[k] := List.getElem?_eq_getElem hk
    have := htb k _ hg
    exact ⟨this.2, by rw [(a4.2 k _ hg).1, this.1], by rw [b4 k _ hg, this.1]⟩
  · have hg : b.2.1[k]? = some b.2.1[k] := List.getElem?_eq_getElem hk
    have hu := uv_out a3.2 hg
    have := a8 k _ hu
    exact mk_qsl hc3 htb4 rfl this.2.2 this.2.1 (b6 k _ hg).1 (b6 k _ hg).2
  · have hg : b.2.2.2[k]? = some b.2.2.2[k] := List.getElem?_eq_getElem hk
    have h1 := a8 _ _ (uv_lo hg)
    have h2 := a8 _ _ (uv_hi hg)
    have h3 := b7 k _ hg
    exact ⟨mk_qsl hc3 htb4 rfl h1.2.2 h1.2.1 h3.1 h3.2.2.2.1, mk_qsl hc3 htb4 rfl h2.2.2 h2.2.1 h3.2.1 h3.2.2.2.2, by rw [a9 k _ hg, h3.2.2.1]⟩
section CPB
variable {d : Nat} {P : qE → Prop} {X : qH} {sw : Bool} {o : Int64} {e : List Nat} {mem : Nat → Nat → Int32}
/-- what a copy of block a into block b leaves behind -/
def cpb (a b : Nat) (m m' : Nat → Nat → Int32) : Prop := (∀ j, (j = 201 ∨ j = 202 ∨ j = 204 ∨ j = 207) → m' j b = m j a) ∧ (∀ i, i < 3 → m' 203 (3 * b + i) = m 203 (3 * a + i)) ∧ (∀ i, i < 4 → m' 205 (4 * b + i) = m 205 (4 * a + i)) ∧ (∀ j i, 208 ≤ j → j < 211 → i < 6 → m' j (6 * b + i) = m j (6 * a + i)) ∧ ∀ j q, ¬ ((j = 201 ∨ j = 202 ∨ j = 204 ∨ j = 207) ∧ q = b) → ¬ (j = 203 ∧ 3 * b ≤ q ∧ q < 3 * b + 3) → ¬ (j = 205 ∧ 4 * b ≤ q ∧ q < 4 * b + 4) → ¬ (208 ≤ j ∧ j < 211 ∧ 6 * b ≤ q ∧ q < 6 * b + 6) → m' j q = m j q
theorem cMo_copyBlock {a b : Nat} (hX : X.length = 13) (ha : a < 15) (hab : b < a) (h1 : ∀ q, b01 (mem 201 q) ∧ b01 (mem 210 q)) (k : ∀ m', cpb a b mem m' → P (.inl none, hpo X m' sw o e)) : QW d mMo_copyBlock 0 (qen 4 [.ref 193, .int (qi a), .int (qi b)]) [] (hpo X mem sw o e) P := by
  have hia : inx (qi a) 15 := qi_inx ha (by omega)
  have hib : inx (qi b) 15 := qi_inx (by omega) (by omega)
  have ea : Int32.toNatClampNeg (qi a) = a := qi_N (by omega)
  have eb : Int32.toNatClampNeg (qi b) = b := qi_N (by omega)
  have nar : ∀ x : Int32, b01 x → narrow .boolean (.int x) = .int x := fun x hx => by rcases hx with rfl | rfl <;> decide
  refine bMo_copyBlock_0 hX hia hib (by rw [ea]; exact nar _ (h1 a).1) hia hib hia hib hia hib ?_
  rw [ea, eb]
  have f0 : ∀ j q, ¬ ((j = 201 ∨ j = 202 ∨ j = 204 ∨ j = 207) ∧ q = b) → (mup (mup (mup (mup mem 201 b (mem 201 a)) 202 b ((mup mem 201 b (mem 201 a)) 202 a)) 204 b ((mup (mup mem 201 b (mem 201 a)) 202 b ((mup mem 201 b (mem 201 a)) 202 a)) 204 a)) 207 b ((mup (mup (mup mem 201 b (mem 201 a)) 202 b ((mup mem 201 b (mem 201 a)) 202 a)) 204 b ((mup (mup mem 201 b (mem 201 a)) 202 b ((mup mem 201 b (mem 201 a)) 202 a)) 204 a)) 207 a)) j q = mem j q := fun j q hz => by (repeat (rw [mup_q]; first | rw [if_pos (by omega)] | rw [if_neg (by omega)]))
  have f1 : ∀ j, (j = 201 ∨ j = 202 ∨ j = 204 ∨ j = 207) → (mup (mup (mup (mup mem 201 b (mem 201 a)) 202 b ((mup mem 201 b (mem 201 a)) 202 a)) 204 b ((mup (mup mem 201 b (mem 201 a)) 202 b ((mup mem 201 b (mem 201 a)) 202 a)) 204 a)) 207 b ((mup (mup (mup mem 201 b (mem 201 a)) 202 b ((mup mem 201 b (mem 201 a)) 202 a)) 204 b ((mup (mup mem 201 b (mem 201 a)) 202 b ((mup mem 201 b (mem 201 a)) 202 a)) 204 a)) 207 a)) j b = mem j a := by
    rintro j (rfl | rfl | rfl | rfl) <;> (repeat (rw [mup_q]; first | rw [if_pos (by omega)] | rw [if_neg (by omega)]))
  generalize mup (mup (mup (mup mem 201 b (mem 201 a)) 202 b ((mup mem 201 b (mem 201 a)) 202 a)) 204 b ((mup (mup mem 201 b (mem 201 a)) 202 b ((mup mem 201 b (mem 201 a)) 202 a)) 204 a)) 207 b ((mup (mup (mup mem 201 b (mem 201 a)) 202 b ((mup mem 201 b (mem 201 a)) 202 a)) 204 b ((mup (mup mem 201 b (mem 201 a)) 202 b ((mup mem 201 b (mem 201 a)) 202 a)) 204 a)) 207 a) = m0 at f0 f1 ⊢
  have l3 : ∀ r i (m : Nat → Nat → Int32), i + r = 6 → (∀ j, (j = 201 ∨ j = 202 ∨ j = 204 ∨ j = 207) → m j b = mem j a) → (∀ i, i < 3 → m 203 (3 * b + i) = mem 203 (3 * a + i)) → (∀ i, i < 4 → m 205 (4 * b + i) = mem 205 (4 * a + i)) → (∀ j x, 208 ≤ j → j < 211 → x < i → m j (6 * b + x) = mem j (6 * a + x)) → (∀ j q, ¬ ((j = 201 ∨ j = 202 ∨ j = 204 ∨ j = 207) ∧ q = b) → ¬ (j = 203 ∧ 3 * b ≤ q ∧ q < 3 * b + 3) → ¬ (j = 205 ∧ 4 * b ≤ q ∧ q < 4 * b + 4) → ¬ (208 ≤ j ∧ j < 211 ∧ 6 * b ≤ q ∧ q < 6 * b + i) → m j q = mem j q) → QW d mMo_copyBlock 116 (lMo_copyBlock_116 (qi a) (qi b) (qi i)) [] (hpo X m sw o e) P := by
    intro r
    induction r with
    | zero =>
      intro i m hi g1 g2 g3 g4 g5
      obtain rfl : i = 6 := by omega
      refine bMo_copyBlock_116 hX (fun _ => k m ⟨g1, g2, g3, g4, g5⟩) (fun z => absurd (by decide) z) (fun z => absurd (by decide) z) (fun z => absurd (by decide) z) (fun z => absurd (by decide) z) (fun z => absurd (by decide) z) (fun z => absurd (by decide) z) (fun z => absurd (by decide) z) (fun z => absurd (by decide) z)
    | succ r ih =>
      intro i m hi g1 g2 g3 g4 g5
      have hle : ¬ (6 : Int32) ≤ qi i := fun z => by have := (qi_le (a := 6) (by omega) (by omega)).mp z; omega
      have xa : (6 : Int32) * qi a + qi i = qi (6 * a + i) := by rw [q6, qi_add]
      have xb : (6 : Int32) * qi b + qi i = qi (6 * b + i) := by rw [q6, qi_add]
      have ya : inx (qi (6 * a + i)) 90 := qi_inx (by omega) (by omega)
      have yb : inx (qi (6 * b + i)) 90 := qi_inx (by omega) (by omega)
      have na : Int32.toNatClampNeg (qi (6 * a + i)) = 6 * a + i := qi_N (by omega)
      have nb : Int32.toNatClampNeg (qi (6 * b + i)) = 6 * b + i := qi_N (by omega)
      refine bMo_copyBlock_116 hX (fun z => absurd z hle) (fun _ => by rw [xa]; exact ya) (fun _ => by rw [xb]; exact yb) (fun _ => by rw [xa]; exact ya) (fun _ => by rw [xb]; exact yb) (fun _ => by rw [xa]; exact ya) (fun _ => by rw [xb]; exact yb) (fun _ => ?_) (fun _ => ?_)
      · rw [xa, xb, na, nb]
        refine nar _ ?_
        rw [mup_ce (by omega), mup_ce (by omega), g5 _ _ (by omega) (by omega) (by omega) (by omega)]; exact (h1 _).2
      · rw [xa, xb, na, nb, qi_1]
        have e8 : m 208 (6 * a + i) = mem 208 (6 * a + i) := g5 _ _ (by omega) (by omega) (by omega) (by omega)
        have e9 : m 209 (6 * a + i) = mem 209 (6 * a + i) := g5 _ _ (by omega) (by omega) (by omega) (by omega)
        have e10 : m 210 (6 * a + i) = mem 210 (6 * a + i) := g5 _ _ (by omega) (by omega) (by omega) (by omega)
        refine ih (i + 1) _ (by omega) (fun j hj => by (repeat (rw [mup_q]; first | rw [if_pos (by omega)] | rw [if_neg (by omega)])); exact g1 j hj) (fun x hx => by (repeat (rw [mup_q]; first | rw [if_pos (by omega)] | rw [if_neg (by omega)])); exact g2 x hx) (fun x hx => by (repeat (rw [mup_q]; first | rw [if_pos (by omega)] | rw [if_neg (by omega)])); exact g3 x hx) (fun j x j1 j2 hx => ?_) (fun j q z1 z2 z3 z4 => by (repeat (rw [mup_q]; first | rw [if_pos (by omega)] | rw [if_neg (by omega)])); exact g5 j q z1 z2 z3 (by omega))
        rcases Nat.lt_or_eq_of_le (Nat.le_of_lt_succ hx) with h' | h'
        · (repeat (rw [mup_q]; first | rw [if_pos (by omega)] | rw [if_neg (by omega)]))
          exact g4 j x j1 j2 h'
        · subst h'
          rcases (show j = 208 ∨ j = 209 ∨ j = 210 by omega) with rfl | rfl | rfl
          · (repeat (rw [mup_q]; first | rw [if_pos (by omega)] | rw [if_neg (by omega)])); exact e8
          · (repeat (rw [mup_q]; first | rw [if_pos (by omega)] | rw [if_neg (by omega)])); exact e9
          · (repeat (rw [mup_q]; first | rw [if_pos (by omega)] | rw [if_neg (by omega)])); exact e10
  have l2 : ∀ r i (m : Nat → Nat → Int32), i + r = 4 → (∀ j, (j = 201 ∨ j = 202 ∨ j = 204 ∨ j = 207) → m j b = mem j a) → (∀ i, i < 3 → m 203 (3 * b + i) = mem 203 (3 * a + i)) → (∀ x, x < i → m 205 (4 * b + x) = mem 205 (4 * a + x)) → (∀ j q, ¬ ((j = 201 ∨ j = 202 ∨ j = 204 ∨ j = 207) ∧ q = b) → ¬ (j = 203 ∧ 3 * b ≤ q ∧ q < 3 * b + 3) → ¬ (j = 205 ∧ 4 * b ≤ q ∧ q < 4 * b + i) → m j q = mem j q) → QW d mMo_copyBlock 83 (lMo_copyBlock_83 (qi a) (qi b) (qi i)) [] (hpo X m sw o e) P := by
    intro r
    induction r with
    | zero =>
      intro i m hi g1 g2 g3 g5
      obtain rfl : i = 4 := by omega
      refine bMo_copyBlock_83 hX (fun _ => l3 6 0 m (by omega) g1 g2 g3 (fun j x _ _ hx => absurd hx (by omega)) (fun j q z1 z2 z3 z4 => g5 j q z1 z2 z3)) (fun z => absurd (by decide) z) (fun z => absurd (by decide) z) (fun z => absurd (by decide) z)
    | succ r ih =>
      intro i m hi g1 g2 g3 g5
      have hle : ¬ (4 : Int32) ≤ qi i := fun z => by have := (qi_le (a := 4) (by omega) (by omega)).mp z; omega
      have xa : (4 : Int32) * qi a + qi i = qi (4 * a + i) := by rw [q4, qi_add]
      have xb : (4 : Int32) * qi b + qi i = qi (4 * b + i) := by rw [q4, qi_add]
      refine bMo_copyBlock_83 hX (fun z => absurd z hle) (fun _ => by rw [xa]; exact qi_inx (by omega) (by omega)) (fun _ => by rw [xb]; exact qi_inx (by omega) (by omega)) (fun _ => ?_)
      rw [xa, xb, qi_N (a := 4 * a + i) (by omega), qi_N (a := 4 * b + i) (by omega), qi_1]
      have e5 : m 205 (4 * a + i) = mem 205 (4 * a + i) := g5 _ _ (by omega) (by omega) (by omega)
      refine ih (i + 1) _ (by omega) (fun j hj => by (repeat (rw [mup_q]; first | rw [if_pos (by omega)] | rw [if_neg (by omega)])); exact g1 j hj) (fun x hx => by (repeat (rw [mup_q]; first | rw [if_pos (by omega)] | rw [if_neg (by omega)])); exact g2 x hx) (fun x hx => ?_) (fun j q z1 z2 z3 => by (repeat (rw [mup_q]; first | rw [if_pos (by omega)] | rw [if_neg (by omega)])); exact g5 j q z1 z2 (by omega))
      rcases Nat.lt_or_eq_of_le (Nat.le_of_lt_succ hx) with h' | h'
      · (repeat (rw [mup_q]; first | rw [if_pos (by omega)] | rw [if_neg (by omega)]))
        exact g3 x h'
      · subst h'
        (repeat (rw [mup_q]; first | rw [if_pos (by omega)] | rw [if_neg (by omega)]))
        exact e5
  have l1 : ∀ r i (m : Nat → Nat → Int32), i + r = 3 → (∀ j, (j = 201 ∨ j = 202 ∨ j = 204 ∨ j = 207) → m j b = mem j a) → (∀ x, x < i → m 203 (3 * b + x) = mem 203 (3 * a + x)) → (∀ j q, ¬ ((j = 201 ∨ j = 202 ∨ j = 204 ∨ j = 207) ∧ q = b) → ¬ (j = 203 ∧ 3 * b ≤ q ∧ q < 3 * b + i) → m j q = mem j q) → QW d mMo_copyBlock 50 (lMo_copyBlock_50 (qi a) (qi b) (qi i)) [] (hpo X m sw o e) P := by
    intro r
    induction r with
    | zero =>
      intro i m hi g1 g2 g5
      obtain rfl : i = 3 := by omega
      refine bMo_copyBlock_50 hX (fun _ => l2 4 0 m (by omega) g1 g2 (fun x hx => absurd hx (by omega)) (fun j q z1 z2 z3 => g5 j q z1 z2)) (fun z => absurd (by decide) z) (fun z => absurd (by decide) z) (fun z => absurd (by decide) z)
    | succ r ih =>
      intro i m hi g1 g2 g5
      have hle : ¬ (3 : Int32) ≤ qi i := fun z => by have := (qi_le (a := 3) (by omega) (by omega)).mp z; omega
      have xa : (3 : Int32) * qi a + qi i = qi (3 * a + i) := by rw [q3, qi_add]
      have xb : (3 : Int32) * qi b + qi i = qi (3 * b + i) := by rw [q3, qi_add]
      refine bMo_copyBlock_50 hX (fun z => absurd z hle) (fun _ => by rw [xa]; exact qi_inx (by omega) (by omega)) (fun _ => by rw [xb]; exact qi_inx (by omega) (by omega)) (fun _ => ?_)
      rw [xa, xb, qi_N (a := 3 * a + i) (by omega), qi_N (a := 3 * b + i) (by omega), qi_1]
      have e3 : m 203 (3 * a + i) = mem 203 (3 * a + i) := g5 _ _ (by omega) (by omega)
      refine ih (i + 1) _ (by omega) (fun j hj => by (repeat (rw [mup_q]; first | rw [if_pos (by omega)] | rw [if_neg (by omega)])); exact g1 j hj) (fun x hx => ?_) (fun j q z1 z2 => by (repeat (rw [mup_q]; first | rw [if_pos (by omega)] | rw [if_neg (by omega)])); exact g5 j q z1 (by omega))
      rcases Nat.lt_or_eq_of_le (Nat.le_of_lt_succ hx) with h' | h'
      · (repeat (rw [mup_q]; first | rw [if_pos (by omega)] | rw [if_neg (by omega)]))
        exact g2 x h'
      · subst h'
        (repeat (rw [mup_q]; first | rw [if_pos (by omega)] | rw [if_neg (by omega)]))
        exact e3
  exact l1 3 0 m0 (by omega) f1 (fun x hx => absurd hx (by omega)) (fun j q z1 _ => f0 j q z1)
end CPB
