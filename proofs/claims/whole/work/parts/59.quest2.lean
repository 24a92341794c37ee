theorem prd_len {c : Int32} {K V : Nat → Int32} {S : Nat → Nat} {col : Nat → Nat} : ∀ g n w l p, prd c K V S col g n w = (some l, p) → l.length ≤ g := by
  intro g
  induction g with
  | zero => intro n w l p h; simp [prd] at h
  | succ g ih =>
    intro n w l p h
    rw [prd] at h
    split at h
    · simp at h
    · split at h
      · split at h
        · split at h
          · simp at h; rw [← h.1]; simp
          · split at h
            · simp at h
            · split at h
              · simp at h
              · rename_i hr
                simp at h
                rw [← h.1]
                have := ih _ _ _ _ hr
                simp; omega
        · simp at h
      · simp at h
theorem prd_lens {c : Int32} {K V : Nat → Int32} {S : Nat → Nat} {col : Nat → Nat} : ∀ g n w l p, prd c K V S col g n w = (some l, p) → ∀ (k : Nat) (x : qBk × Int32), l[k]? = some x → x.1.2.1.length ≤ 3 ∧ x.1.2.2.1.length ≤ 4 ∧ x.1.2.2.2.length ≤ 6 := by
  intro g
  induction g with
  | zero => intro n w l p h; simp [prd] at h
  | succ g ih =>
    intro n w l p h k x hx
    rw [prd] at h
    split at h
    · simp at h
    · rename_i b n1 hb
      split at h
      · split at h
        · split at h
          · simp at h
            rw [← h.1] at hx
            rcases k with _ | k
            · simp at hx
              subst hx
              exact pbl_len hb
            · simp at hx
          · split at h
            · simp at h
            · split at h
              · simp at h
              · rename_i hr
                simp at h
                rw [← h.1] at hx
                rcases k with _ | k
                · simp at hx
                  subst hx
                  exact pbl_len hb
                · exact ih _ _ _ _ hr k x (by simpa using hx)
        · simp at h
      · simp at h
theorem prd_p {c : Int32} {K V : Nat → Int32} {S : Nat → Nat} {col : Nat → Nat} (hS : ∀ n, S n ≤ 200) : ∀ g n w p, prd c K V S col g n w = (none, p) → p ≤ 200 := by
  intro g
  induction g with
  | zero => intro n w p h; simp [prd] at h; rw [← h]; exact hS _
  | succ g ih =>
    intro n w p h
    rw [prd] at h
    split at h
    · simp at h; rw [← h]; exact hS _
    · split at h
      · split at h
        · split at h
          · simp at h
          · split at h
            · simp at h; rw [← h]; exact hS _
            · split at h
              · rename_i hr
                simp at h
                rw [← h]; exact ih _ _ _ hr
              · simp at h
        · simp at h; rw [← h]; exact hS _
      · simp at h; rw [← h]; exact hS _
/-- how the class cuts the text into tokens -/
def SPL (d : Nat) (X : qH) : Prop := ∀ (P : qE → Prop) (mem : Nat → Nat → Int32) (sw : Bool) (o : Int64) (e : List Nat) (L : Nat), mem 28 1 = qi L → L ≤ 200 → (∀ k, k < L → ¬ mem 29 k < 32 ∧ mem 29 k ≤ 126) →
  (∀ m' N K S V E G, qLx (mem 29) L N K S V E G → (∀ n, S n ≤ 200) → qTk m' N K S V → m' 31 4 = 0 → (∀ j q, ¬ (31 ≤ j ∧ j < 35) → m' j q = mem j q) → P (.inl none, hpo X m' sw o e)) → QW d mTok_split 0 (qen 4 [.ref 31, .ref 28]) [] (hpo X mem sw o e) P
section QST
variable {d : Nat} {P : qE → Prop} {X : qH} {sw : Bool} {o : Int64} {e : List Nat} {mem : Nat → Nat → Int32} {cnt nq L : Nat} {col : Nat → Nat}
theorem cBp_question (hX : X.length = 13) (spl : SPL (d + 4) X) (hc4 : cnt ≤ 4) (hc3 : ∀ t, t < 4 → col t ≤ 3) (hL : mem 28 1 = qi L) (hL2 : L ≤ 200) (hch : ∀ k, k < L → ¬ mem 29 k < 32 ∧ mem 29 k ≤ 126) (hc : mem 14 1 = qi cnt) (hco : ∀ t, t < 4 → mem (16 + 3 * t) 0 = qi (col t)) (hq : mem 13 4 = qi nq) (hq4 : nq ≤ 4) (he : e.length < 10000)
    (k1 : nq < 4 → ∀ m' N K S V E G l p, qLx (mem 29) L N K S V E G → prd (qi cnt) K V S col 3 0 none = (some l, p) → (∀ j q, ¬ (j = 13 ∧ 4 ≤ q ∧ q < 6) → ¬ (j = 28 ∧ q = 1) → ¬ (31 ≤ j ∧ j < 35) → ¬ (36 + 24 * nq ≤ j ∧ j < 36 + 24 * nq + 24) → m' j q = mem j q) → m' 13 5 = -1 → m' 13 4 = qi (nq + 1) → m' 28 1 = 0 → m' (36 + 24 * nq) 0 = qi l.length → 1 ≤ l.length → l.length ≤ 3 → (∀ k x, l[k]? = some x → blq m' (36 + 24 * nq + 3 + 7 * k) x.1 col ∧ (k + 1 < l.length → m' (36 + 24 * nq + 2) k = x.2)) → P (.inl (some (.int (qi nq))), hpo X m' sw o e))
    (k2 : nq = 4 → ∀ m' N K S V E G l p, qLx (mem 29) L N K S V E G → prd (qi cnt) K V S col 3 0 none = (some l, p) → (∀ j q, ¬ (j = 13 ∧ 4 ≤ q ∧ q < 6) → ¬ (31 ≤ j ∧ j < 35) → ¬ (36 + 24 * nq ≤ j ∧ j < 36 + 24 * nq + 24) → m' j q = mem j q) → m' 13 5 = -1 → m' 13 4 = qi nq → P (.inr (225 + e.length), hpo X m' sw o (e ++ [21])))
    (k0 : ∀ m' N K S V E G p, qLx (mem 29) L N K S V E G → prd (qi cnt) K V S col 3 0 none = (none, p) → p ≤ 200 → (∀ j q, ¬ (j = 13 ∧ 4 ≤ q ∧ q < 6) → ¬ (31 ≤ j ∧ j < 35) → ¬ (36 + 24 * nq ≤ j ∧ j < 36 + 24 * nq + 24) → m' j q = mem j q) → m' 13 5 = qi p → m' 13 4 = qi nq → P (.inr (225 + e.length), hpo X m' sw o (e ++ [20]))) :
    QW (d + 6) mBp_question 0 (qen 1 [.ref 13]) [] (hpo X mem sw o e) P := by
  have hQ : kQu (36 + 24 * nq) := kQu_at (by omega)
  refine bBp_question_0 (d := d + 5) hX (by rw [hq]; exact qi_inx (by omega) (by omega)) ?_
  rw [hq, qi_N (by omega)]
  refine bRd_read_0 (d := d + 4) hX hQ (spl _ mem sw o e L hL hL2 hch ?_)
  intro m1 N K S V E G hlx hS htk hat hfr
  refine qcl_v (bRd_read_8 hX hQ ?_)
  have fr2 : ∀ j q, ¬ (j = 36 + 24 * nq ∧ q = 0) → mup m1 (36 + 24 * nq) 0 0 j q = m1 j q := fun j q a => by (repeat (rw [mup_q]; first | rw [if_pos (by omega)] | rw [if_neg (by omega)]))
  refine rdAll (d := d + 1) (cnt := cnt) (col := col) hX hQ (by omega) hc4 hc3 3 0 0 _ none .unset .unset (Or.inl rfl) (Or.inl rfl) (by omega) (qTk_mono (fr2 _ _ (by omega)) (fun j q _ _ => fr2 _ _ (by omega)) htk) (by rw [fr2 _ _ (by omega), hat]; rfl) (by omega) (by rw [fr2 _ _ (by omega), hfr _ _ (by omega)]; exact hc) (fun t ht => by rw [fr2 _ _ (by omega), hfr _ _ (by omega)]; exact hco t ht) (by rw [mup_at]; rfl) (fun _ => rfl) (fun z => absurd rfl z) (by omega) ?_ ?_
  · intro m2 l p g1 g2 g3 g4 g5 g6
    have all2 : ∀ j q, ¬ (31 ≤ j ∧ j < 35) → ¬ (36 + 24 * nq ≤ j ∧ j < 36 + 24 * nq + 24) → m2 j q = mem j q := fun j q a b => by rw [g2 j q (by omega) (by omega) (by omega) (by omega), fr2 j q (by omega), hfr j q a]
    have e4 : m2 13 4 = qi nq := by rw [all2 _ _ (by omega) (by omega)]; exact hq
    refine qcl_i (bBp_question_25 hX (fun _ y => ?_) he (fun _ y => ?_) he (fun y => absurd (mup_at _ _ _ _) y))
    · have hlt : nq < 4 := by
        rw [mup_q, if_neg (by omega), e4] at y
        exact (qi_lt (b := 4) (by omega) (by omega)).mp y
      refine bTxt_clear_0 hX (qcl_i (bBp_question_71 hX ?_))
      have e4' : mup (mup m2 13 5 (-1)) 28 1 0 13 4 = qi nq := by (repeat (rw [mup_q]; first | rw [if_pos (by omega)] | rw [if_neg (by omega)])); exact e4
      rw [e4', mup_at, qi_1, show qi (nq + 1) - 1 = qi nq from qi_s1 (by omega)]
      refine k1 hlt _ N K S V E G l p hlx g1 (fun j q z1 z2 z3 z4 => by (repeat (rw [mup_q]; first | rw [if_pos (by omega)] | rw [if_neg (by omega)])); exact all2 j q z3 z4) (by (repeat (rw [mup_q]; first | rw [if_pos (by omega)] | rw [if_neg (by omega)]))) (by (repeat (rw [mup_q]; first | rw [if_pos (by omega)] | rw [if_neg (by omega)]))) (by (repeat (rw [mup_q]; first | rw [if_pos (by omega)] | rw [if_neg (by omega)]))) (by (repeat (rw [mup_q]; first | rw [if_pos (by omega)] | rw [if_neg (by omega)])); rw [g3, Nat.zero_add]) g4 g5 (fun k x hk => ?_)
      have := g6 k x hk
      rw [Nat.zero_add] at this
      have hl := (List.getElem?_eq_some_iff.mp hk).1
      exact ⟨blq_mono this.1 (fun j q _ _ => by (repeat (rw [mup_q]; first | rw [if_pos (by omega)] | rw [if_neg (by omega)]))), fun z => by (repeat (rw [mup_q]; first | rw [if_pos (by omega)] | rw [if_neg (by omega)])); exact this.2 z⟩
    · have hlt : nq = 4 := by
        rw [mup_q, if_neg (by omega), e4] at y
        have := mt (qi_lt (a := nq) (b := 4) (by omega) (by omega)).mpr y
        omega
      exact k2 hlt _ N K S V E G l p hlx g1 (fun j q z1 z3 z4 => by (repeat (rw [mup_q]; first | rw [if_pos (by omega)] | rw [if_neg (by omega)])); exact all2 j q z3 z4) (by (repeat (rw [mup_q]; first | rw [if_pos (by omega)] | rw [if_neg (by omega)]))) (by (repeat (rw [mup_q]; first | rw [if_pos (by omega)] | rw [if_neg (by omega)])); exact e4)
  · intro m2 p g1 g2
    have all2 : ∀ j q, ¬ (31 ≤ j ∧ j < 35) → ¬ (36 + 24 * nq ≤ j ∧ j < 36 + 24 * nq + 24) → m2 j q = mem j q := fun j q a b => by rw [g2 j q (by omega) (by omega) (by omega) (by omega), fr2 j q (by omega), hfr j q a]
    have e4 : m2 13 4 = qi nq := by rw [all2 _ _ (by omega) (by omega)]; exact hq
    have hp := prd_p hS _ _ _ _ g1
    have hne : ¬ mup m2 13 5 (qi p) 13 5 = -1 := by
      rw [mup_at]
      intro z
      have : ¬ qi p < 0 := qi_p (by omega)
      rw [z] at this
      exact this (by decide)
    exact qcl_i (bBp_question_25 hX (fun y => absurd y hne) he (fun y => absurd y hne) he (fun _ => k0 _ N K S V E G p hlx g1 hp (fun j q z1 z3 z4 => by (repeat (rw [mup_q]; first | rw [if_pos (by omega)] | rw [if_neg (by omega)])); exact all2 j q z3 z4) (by (repeat (rw [mup_q]; first | rw [if_pos (by omega)] | rw [if_neg (by omega)]))) (by (repeat (rw [mup_q]; first | rw [if_pos (by omega)] | rw [if_neg (by omega)])); exact e4)))
theorem cMo_question {f : Nat → Int32} {N : Nat} {K V G : Nat → Int32} {S E : Nat → Nat} (hX : X.length = 13) (h : qLx f L N K S V E G) (hc4 : cnt ≤ 4) (hc3 : ∀ t, t < 4 → col t ≤ 3) (hL : mem 193 6 = qi L) (hf : ∀ k, k < L → mem 198 k = f k) (hc : mem 193 1 = qi cnt) (hco : ∀ t, t < 4 → mem 194 t = qi (col t)) (hb : ∀ q, b01 (mem 201 q) ∧ b01 (mem 210 q)) (hq : mem 193 13 = qi nq) (hq4 : nq ≤ 4)
    (k1 : ∀ m' l p, prd (qi cnt) K V S col 3 0 none = (some l, p) → nq < 4 → m' 193 0 = 0 → m' 193 8 = -1 → m' 193 13 = qi (nq + 1) → m' 193 6 = 0 → m' 199 nq = qi l.length → (∀ k x, l[k]? = some x → mbq m' (3 * nq + k) x.1 col ∧ (k + 1 < l.length → qsg x.2 (m' 200 (2 * nq + k)))) → (∀ q, b01 (m' 201 q) ∧ b01 (m' 210 q)) → (∀ j q, ¬ (j = 193 ∧ (q = 0 ∨ q = 6 ∨ 8 ≤ q ∧ q < 14)) → ¬ (199 ≤ j ∧ j < 211) → m' j q = mem j q) → (∀ j q, 199 ≤ j → j < 211 → (j = 199 → q < nq) → (j = 200 → q < 2 * nq) → ((j = 201 ∨ j = 202 ∨ j = 204 ∨ j = 207) → q < 3 * nq) → (j = 203 → q < 9 * nq) → ((j = 205 ∨ j = 206) → q < 12 * nq) → (208 ≤ j → q < 18 * nq) → m' j q = mem j q) → P (.inl (some (.int (qi nq))), hpo X m' sw o e))
    (k2 : ∀ m' l p, prd (qi cnt) K V S col 3 0 none = (some l, p) → nq = 4 → m' 193 0 = 2 → m' 193 8 = -1 → (∀ q, b01 (m' 201 q) ∧ b01 (m' 210 q)) → (∀ j q, ¬ (j = 193 ∧ (q = 0 ∨ 8 ≤ q ∧ q < 13)) → ¬ (199 ≤ j ∧ j < 211) → m' j q = mem j q) → (∀ j q, 199 ≤ j → j < 211 → (j = 199 → q < 4) → (j = 200 → q < 8) → ((j = 201 ∨ j = 202 ∨ j = 204 ∨ j = 207) → q < 12) → (j = 203 → q < 36) → ((j = 205 ∨ j = 206) → q < 48) → (208 ≤ j → q < 72) → m' j q = mem j q) → P (.inl (some (.int 0)), hpo X m' sw o e))
    (k0 : ∀ m' p, prd (qi cnt) K V S col 3 0 none = (none, p) → m' 193 0 = 1 → m' 193 8 = qi p → (∀ q, b01 (m' 201 q) ∧ b01 (m' 210 q)) → (∀ j q, ¬ (j = 193 ∧ (q = 0 ∨ 8 ≤ q ∧ q < 13)) → ¬ (199 ≤ j ∧ j < 211) → m' j q = mem j q) → (∀ j q, 199 ≤ j → j < 211 → (j = 199 → q < 4) → (j = 200 → q < 8) → ((j = 201 ∨ j = 202 ∨ j = 204 ∨ j = 207) → q < 12) → (j = 203 → q < 36) → ((j = 205 ∨ j = 206) → q < 48) → (208 ≤ j → q < 72) → m' j q = mem j q) → P (.inl (some (.int 0)), hpo X m' sw o e))
    (hp : ∀ p, prd (qi cnt) K V S col 3 0 none = (none, p) → p ≤ 200) :
    QW (d + 7) mMo_question 0 (qen 3 [.ref 193]) [] (hpo X mem sw o e) P := by
  refine bMo_question_0 (d := d + 6) hX (bMo_readText_0 (d := d + 5) hX ?_)
  have fr0 : ∀ j q, ¬ (j = 193 ∧ q = 11) → mup mem 193 11 0 j q = mem j q := fun j q a => by (repeat (rw [mup_q]; first | rw [if_pos (by omega)] | rw [if_neg (by omega)]))
  have fin : ∀ m1, (∀ j q, ¬ (j = 193 ∧ 9 ≤ q ∧ q < 13) → m1 j q = mem j q) → mtk m1 f L S V E G 0 → QW (d + 6) mMo_readText 9 lMo_readText_9 [] (hpo X m1 sw o e) (qcl (d + 6) mMo_question 2 5 lMo_question_5 [.ref 193] P) := by
    intro m1 hfr hm
    refine bMo_readText_9 hX ?_
    refine moAll (d := d) (cnt := cnt) (col := col) hX h hc4 hc3 3 0 0 m1 none .unset (Or.inl rfl) (by omega) (by omega) hm (by omega) (by rw [hfr _ _ (by omega)]; exact hc) (fun t ht => by rw [hfr _ _ (by omega)]; exact hco t ht) (fun q => by rw [hfr _ _ (by omega), hfr _ _ (by omega)]; exact hb q) (fun _ => rfl) (fun z => absurd rfl z) ?_ ?_
    · intro m2 l p g1 g2 g3 g4 g5
      have hlen : ∀ (k : Nat) (x : qBk × Int32), l[k]? = some x → k < l.length := fun k x hk => (List.getElem?_eq_some_iff.mp hk).1
      have all2 : ∀ j q, ¬ (j = 193 ∧ 9 ≤ q ∧ q < 13) → ¬ (199 ≤ j ∧ j < 211) → m2 j q = mem j q := fun j q a b => by rw [g2 j q a (by omega) (by omega) (by omega) (by omega) (by omega) (by omega), hfr j q a]
      have low2 : ∀ j q, 199 ≤ j → j < 211 → (j = 199 → q < 4) → (j = 200 → q < 8) → ((j = 201 ∨ j = 202 ∨ j = 204 ∨ j = 207) → q < 12) → (j = 203 → q < 36) → ((j = 205 ∨ j = 206) → q < 48) → (208 ≤ j → q < 72) → m2 j q = mem j q := fun j q a1 a2 a3 a4 a5 a6 a7 a8 => by rw [g2 j q (by omega) (by omega) (by omega) (by omega) (by omega) (by omega) (by omega), hfr j q (by omega)]
      have e13 : m2 193 13 = qi nq := by rw [all2 _ _ (by omega) (by omega)]; exact hq
      have hlt0 : mup m2 193 8 (-1) 193 8 < 0 := by rw [mup_at]; decide
      have e13' : mup m2 193 8 (-1) 193 13 = qi nq := by (repeat (rw [mup_q]; first | rw [if_pos (by omega)] | rw [if_neg (by omega)])); exact e13
      refine qcl_i (bMo_question_5 hX (fun _ y => ?_) (fun _ y => ?_) (fun y => absurd hlt0 y))
      · -- kept
        have hn4 : nq < 4 := by
          rw [e13'] at y
          rcases Nat.lt_or_eq_of_le hq4 with h' | h'
          · exact h'
          · rw [h'] at y; exact absurd rfl y
        have e0 : mup (mup m2 193 8 (-1)) 193 0 0 193 13 = qi nq := by (repeat (rw [mup_q]; first | rw [if_pos (by omega)] | rw [if_neg (by omega)])); exact e13
        have q2 : (2 : Int32) * qi nq = qi (2 * nq) := qi_mul 2 nq
        have hle : mup (mup m2 193 8 (-1)) 193 0 0 193 0 ≤ 0 := by rw [mup_at]; decide
        refine bMo_question_33 hX (fun _ => ?_) (fun _ => ?_) (fun _ => ?_) (fun _ => ?_) (fun z => absurd hle z)
        · rw [e0]; exact qi_inx (by omega) (by omega)
        · rw [e0, q2]; exact qi_inx (by omega) (by omega)
        · rw [e0, q2, qi_1]; exact qi_inx (by omega) (by omega)
        · rw [e0, q2, qi_1, qi_N (a := nq) (by omega), qi_N (a := 2 * nq) (by omega), qi_N (a := 2 * nq + 1) (by omega), show Int32.toNatClampNeg 4 = 4 from rfl, show Int32.toNatClampNeg 8 = 8 from rfl, show Int32.toNatClampNeg 9 = 9 from rfl]
          have x199 : mup (mup m2 193 8 (-1)) 193 0 0 199 4 = qi l.length := by (repeat (rw [mup_q]; first | rw [if_pos (by omega)] | rw [if_neg (by omega)])); rw [g3, Nat.zero_add]
          rw [x199]
          have y8 : mup (mup (mup m2 193 8 (-1)) 193 0 0) 199 nq (qi l.length) 200 8 = m2 200 8 := by (repeat (rw [mup_q]; first | rw [if_pos (by omega)] | rw [if_neg (by omega)]))
          rw [y8]
          have y9 : mup (mup (mup (mup m2 193 8 (-1)) 193 0 0) 199 nq (qi l.length)) 200 (2 * nq) (m2 200 8) 200 9 = m2 200 9 := by (repeat (rw [mup_q]; first | rw [if_pos (by omega)] | rw [if_neg (by omega)]))
          rw [y9]
          have fr3 : ∀ j q, ¬ (j = 193 ∧ (q = 0 ∨ q = 8)) → ¬ (j = 199 ∧ q = nq) → ¬ (j = 200 ∧ (q = 2 * nq ∨ q = 2 * nq + 1)) → mup (mup (mup (mup (mup m2 193 8 (-1)) 193 0 0) 199 nq (qi l.length)) 200 (2 * nq) (m2 200 8)) 200 (2 * nq + 1) (m2 200 9) j q = m2 j q := fun j q a b c => by (repeat (rw [mup_q]; first | rw [if_pos (by omega)] | rw [if_neg (by omega)]))
          have z0 : mup (mup (mup (mup (mup m2 193 8 (-1)) 193 0 0) 199 nq (qi l.length)) 200 (2 * nq) (m2 200 8)) 200 (2 * nq + 1) (m2 200 9) 193 0 = 0 := by (repeat (rw [mup_q]; first | rw [if_pos (by omega)] | rw [if_neg (by omega)]))
          have z8 : mup (mup (mup (mup (mup m2 193 8 (-1)) 193 0 0) 199 nq (qi l.length)) 200 (2 * nq) (m2 200 8)) 200 (2 * nq + 1) (m2 200 9) 193 8 = -1 := by (repeat (rw [mup_q]; first | rw [if_pos (by omega)] | rw [if_neg (by omega)]))
          have z199 : mup (mup (mup (mup (mup m2 193 8 (-1)) 193 0 0) 199 nq (qi l.length)) 200 (2 * nq) (m2 200 8)) 200 (2 * nq + 1) (m2 200 9) 199 nq = qi l.length := by (repeat (rw [mup_q]; first | rw [if_pos (by omega)] | rw [if_neg (by omega)]))
          have z200 : ∀ k, k < 2 → mup (mup (mup (mup (mup m2 193 8 (-1)) 193 0 0) 199 nq (qi l.length)) 200 (2 * nq) (m2 200 8)) 200 (2 * nq + 1) (m2 200 9) 200 (2 * nq + k) = m2 200 (8 + k) := by
            intro k hk
            rcases (show k = 0 ∨ k = 1 by omega) with rfl | rfl
            · (repeat (rw [mup_q]; first | rw [if_pos (by omega)] | rw [if_neg (by omega)]))
            · (repeat (rw [mup_q]; first | rw [if_pos (by omega)] | rw [if_neg (by omega)]))
          generalize mup (mup (mup (mup (mup m2 193 8 (-1)) 193 0 0) 199 nq (qi l.length)) 200 (2 * nq) (m2 200 8)) 200 (2 * nq + 1) (m2 200 9) = m3 at fr3 z0 z8 z199 z200 ⊢
          have z13 : m3 193 13 = qi nq := by rw [fr3 _ _ (by omega) (by omega) (by omega)]; exact e13
          have b3 : ∀ q, b01 (m3 201 q) ∧ b01 (m3 210 q) := fun q => by rw [fr3 _ _ (by omega) (by omega) (by omega), fr3 _ _ (by omega) (by omega) (by omega)]; exact g5 q
          -- the copies
          have lp : ∀ r k (m : Nat → Nat → Int32), k + r = 3 → (∀ q, b01 (m 201 q) ∧ b01 (m 210 q)) → (∀ i x, i < k → l[i]? = some x → mbq m (3 * nq + i) x.1 col) → (∀ j q, ¬ ((j = 201 ∨ j = 202 ∨ j = 204 ∨ j = 207) ∧ 3 * nq ≤ q ∧ q < 3 * nq + k) → ¬ (j = 203 ∧ 3 * (3 * nq) ≤ q ∧ q < 3 * (3 * nq + k)) → ¬ (j = 205 ∧ 4 * (3 * nq) ≤ q ∧ q < 4 * (3 * nq + k)) → ¬ (208 ≤ j ∧ j < 211 ∧ 6 * (3 * nq) ≤ q ∧ q < 6 * (3 * nq + k)) → m j q = m3 j q) → QW (d + 7) mMo_question 96 (lMo_question_96 (qi nq) (qi k)) [] (hpo X m sw o e) P := by
            intro r
            induction r with
            | zero =>
              intro k m hk hb' hmb hfrm
              obtain rfl : k = 3 := by omega
              refine bMo_question_96 hX (fun _ => ?_) (fun z => absurd (by decide) z)
              have e13m : m 193 13 = qi nq := by rw [hfrm _ _ (by omega) (by omega) (by omega) (by omega)]; exact z13
              rw [e13m, qi_1]
              refine k1 _ l p g1 hn4 (by (repeat (rw [mup_q]; first | rw [if_pos (by omega)] | rw [if_neg (by omega)])); rw [hfrm _ _ (by omega) (by omega) (by omega) (by omega)]; exact z0) (by (repeat (rw [mup_q]; first | rw [if_pos (by omega)] | rw [if_neg (by omega)])); rw [hfrm _ _ (by omega) (by omega) (by omega) (by omega)]; exact z8) (by (repeat (rw [mup_q]; first | rw [if_pos (by omega)] | rw [if_neg (by omega)]))) (by (repeat (rw [mup_q]; first | rw [if_pos (by omega)] | rw [if_neg (by omega)]))) (by (repeat (rw [mup_q]; first | rw [if_pos (by omega)] | rw [if_neg (by omega)])); rw [hfrm _ _ (by omega) (by omega) (by omega) (by omega)]; exact z199) (fun k x hk => ?_) (fun q => by rw [mup_ce (by omega), mup_ce (by omega), mup_ce (by omega), mup_ce (by omega)]; exact hb' q) (fun j q a1 a2 => ?_) (fun j q a1 a2 a3 a4 a5 a6 a7 a8 => ?_)
              · have hkl := hlen k x hk
                have hl3 : l.length ≤ 3 := by
                  have := prd_len _ _ _ _ _ g1
                  exact this
                refine ⟨?_, fun z => ?_⟩
                · have := hmb k x (by omega) hk
                  obtain ⟨u1, u2, u3, u4, u5, u6, u7⟩ := this
                  exact ⟨by (repeat (rw [mup_q]; first | rw [if_pos (by omega)] | rw [if_neg (by omega)])); exact u1, by (repeat (rw [mup_q]; first | rw [if_pos (by omega)] | rw [if_neg (by omega)])); exact u2, by (repeat (rw [mup_q]; first | rw [if_pos (by omega)] | rw [if_neg (by omega)])); exact u3, fun i v hi => by (repeat (rw [mup_q]; first | rw [if_pos (by omega)] | rw [if_neg (by omega)])); exact u4 i v hi, by (repeat (rw [mup_q]; first | rw [if_pos (by omega)] | rw [if_neg (by omega)])); exact u5, fun i v hi => by (repeat (rw [mup_q]; first | rw [if_pos (by omega)] | rw [if_neg (by omega)])); exact u6 i v hi, fun i c hi => by
                    rw [mup_ce (by omega), mup_ce (by omega), mup_ce (by omega), mup_ce (by omega), mup_ce (by omega), mup_ce (by omega)]
                    exact u7 i c hi⟩
                · have := (g4 k x hk).2 z
                  rw [show mup (mup m 193 13 (qi (nq + 1))) 193 6 0 200 (2 * nq + k) = m2 200 (8 + k) by (repeat (rw [mup_q]; first | rw [if_pos (by omega)] | rw [if_neg (by omega)])); rw [hfrm _ _ (by omega) (by omega) (by omega) (by omega)]; exact z200 k (by omega)]
                  exact this
              · (repeat (rw [mup_q]; first | rw [if_pos (by omega)] | rw [if_neg (by omega)]))
                rw [hfrm _ _ (by omega) (by omega) (by omega) (by omega), fr3 _ _ (by omega) (by omega) (by omega), all2 _ _ (by omega) (by omega)]
              · (repeat (rw [mup_q]; first | rw [if_pos (by omega)] | rw [if_neg (by omega)]))
                rw [hfrm _ _ (by omega) (by omega) (by omega) (by omega), fr3 _ _ (by omega) (by omega) (by omega), low2 _ _ (by omega) (by omega) (by omega) (by omega) (by omega) (by omega) (by omega) (by omega)]
            | succ r ih =>
              intro k m hk hb' hmb hfrm
              have hle3 : ¬ (3 : Int32) ≤ qi k := fun z => by have := (qi_le (a := 3) (by omega) (by omega)).mp z; omega
              refine bMo_question_96 hX (fun z => absurd z hle3) (fun _ => ?_)
              rw [show (12 : Int32) + qi k = qi (12 + k) from qi_add 12 k, q3, qi_add]
              refine cMo_copyBlock hX (by omega) (by omega) hb' (fun m4 hcp => qcl_v (bMo_question_114 hX ?_))
              rw [qi_1]
              obtain ⟨v1, v2, v3, v4, v5⟩ := hcp
              have b4 : ∀ q, b01 (m4 201 q) ∧ b01 (m4 210 q) := fun q => by
                constructor
                · by_cases hq' : q = 3 * nq + k
                  · subst hq'; rw [v1 _ (by omega)]; exact (hb' _).1
                  · rw [v5 _ _ (by omega) (by omega) (by omega) (by omega)]; exact (hb' _).1
                · by_cases hq' : 6 * (3 * nq + k) ≤ q ∧ q < 6 * (3 * nq + k) + 6
                  · rw [show q = 6 * (3 * nq + k) + (q - 6 * (3 * nq + k)) by omega, v4 _ _ (by omega) (by omega) (by omega)]; exact (hb' _).2
                  · rw [v5 _ _ (by omega) (by omega) (by omega) (by omega)]; exact (hb' _).2
              refine ih (k + 1) m4 (by omega) b4 (fun i x hi hx => ?_) (fun j q a1 a2 a3 a4 => by rw [v5 j q (by omega) (by omega) (by omega) (by omega), hfrm j q (by omega) (by omega) (by omega) (by omega)])
              obtain ⟨w3, w4, w6⟩ := prd_lens _ _ _ _ _ g1 i x hx
              rcases Nat.lt_or_eq_of_le (Nat.le_of_lt_succ hi) with h' | h'
              · exact mbq_mono (hmb i x h' hx) w3 w4 w6 (fun j hj => v5 _ _ (by omega) (by omega) (by omega) (by omega)) (fun q _ _ => v5 _ _ (by omega) (by omega) (by omega) (by omega)) (fun q _ _ => v5 _ _ (by omega) (by omega) (by omega) (by omega)) (fun j q _ _ _ _ => v5 _ _ (by omega) (by omega) (by omega) (by omega))
              · subst h'
                have hm2 := (g4 i x hx).1
                rw [show 12 + 0 + i = 12 + i by omega] at hm2
                have cp : ∀ j q, (j = 201 ∨ j = 202 ∨ j = 204 ∨ j = 207) → q = 12 + i → m j q = m2 j q := fun j q hj hq' => by rw [hfrm j q (by omega) (by omega) (by omega) (by omega), fr3 j q (by omega) (by omega) (by omega)]
                obtain ⟨u1, u2, u3, u4, u5, u6, u7⟩ := hm2
                refine ⟨by rw [v1 _ (by omega), cp _ _ (by omega) rfl]; exact u1, by rw [v1 _ (by omega), cp _ _ (by omega) rfl]; exact u2, by rw [v1 _ (by omega), cp _ _ (by omega) rfl]; exact u3, fun y v hy => ?_, by rw [v1 _ (by omega), cp _ _ (by omega) rfl]; exact u5, fun y v hy => ?_, fun y c hy => ?_⟩
                · have hyl := (List.getElem?_eq_some_iff.mp hy).1
                  rw [v3 _ (by omega), hfrm _ _ (by omega) (by omega) (by omega) (by omega), fr3 _ _ (by omega) (by omega) (by omega)]; exact u4 y v hy
                · have hyl := (List.getElem?_eq_some_iff.mp hy).1
                  rw [v2 _ (by omega), hfrm _ _ (by omega) (by omega) (by omega) (by omega), fr3 _ _ (by omega) (by omega) (by omega)]; exact u6 y v hy
                · have hyl := (List.getElem?_eq_some_iff.mp hy).1
                  rw [v4 _ _ (by omega) (by omega) (by omega), v4 _ _ (by omega) (by omega) (by omega), v4 _ _ (by omega) (by omega) (by omega), hfrm _ _ (by omega) (by omega) (by omega) (by omega), hfrm _ _ (by omega) (by omega) (by omega) (by omega), hfrm _ _ (by omega) (by omega) (by omega) (by omega), fr3 _ _ (by omega) (by omega) (by omega), fr3 _ _ (by omega) (by omega) (by omega), fr3 _ _ (by omega) (by omega) (by omega)]; exact u7 y c hy
          exact lp 3 0 m3 (by omega) b3 (fun i x hi => absurd hi (by omega)) (fun j q _ _ _ _ => rfl)
      · -- four already
        have hn4 : nq = 4 := by
          rw [e13'] at y
          exact qi_inj (b := 4) (by omega) (by omega) y
        have hgt : ¬ mup (mup m2 193 8 (-1)) 193 0 2 193 0 ≤ 0 := by rw [mup_at]; decide
        refine bMo_question_33 hX (fun z => absurd z hgt) (fun z => absurd z hgt) (fun z => absurd z hgt) (fun z => absurd z hgt) (fun _ => ?_)
        exact k2 _ l p g1 hn4 (mup_at _ _ _ _) (by (repeat (rw [mup_q]; first | rw [if_pos (by omega)] | rw [if_neg (by omega)]))) (fun q => by rw [mup_ce (by omega), mup_ce (by omega), mup_ce (by omega), mup_ce (by omega)]; exact g5 q) (fun j q a b => by (repeat (rw [mup_q]; first | rw [if_pos (by omega)] | rw [if_neg (by omega)])); exact all2 j q (by omega) b) (fun j q a1 a2 a3 a4 a5 a6 a7 a8 => by (repeat (rw [mup_q]; first | rw [if_pos (by omega)] | rw [if_neg (by omega)])); exact low2 j q a1 a2 a3 a4 a5 a6 a7 a8)
    · intro m2 p g1 g2 g5
      have all2 : ∀ j q, ¬ (j = 193 ∧ 9 ≤ q ∧ q < 13) → ¬ (199 ≤ j ∧ j < 211) → m2 j q = mem j q := fun j q a b => by rw [g2 j q a (by omega) (by omega) (by omega) (by omega) (by omega) (by omega), hfr j q a]
      have low2 : ∀ j q, 199 ≤ j → j < 211 → (j = 199 → q < 4) → (j = 200 → q < 8) → ((j = 201 ∨ j = 202 ∨ j = 204 ∨ j = 207) → q < 12) → (j = 203 → q < 36) → ((j = 205 ∨ j = 206) → q < 48) → (208 ≤ j → q < 72) → m2 j q = mem j q := fun j q a1 a2 a3 a4 a5 a6 a7 a8 => by rw [g2 j q (by omega) (by omega) (by omega) (by omega) (by omega) (by omega) (by omega), hfr j q (by omega)]
      have hge : ¬ mup m2 193 8 (qi p) 193 8 < 0 := by rw [mup_at]; exact qi_p (by have := hp p g1; omega)
      have hgt : ¬ mup (mup m2 193 8 (qi p)) 193 0 1 193 0 ≤ 0 := by rw [mup_at]; decide
      refine qcl_i (bMo_question_5 hX (fun z => absurd z hge) (fun z => absurd z hge) (fun _ => bMo_question_33 hX (fun z => absurd z hgt) (fun z => absurd z hgt) (fun z => absurd z hgt) (fun z => absurd z hgt) (fun _ => ?_)))
      exact k0 _ p g1 (mup_at _ _ _ _) (by (repeat (rw [mup_q]; first | rw [if_pos (by omega)] | rw [if_neg (by omega)]))) (fun q => by rw [mup_ce (by omega), mup_ce (by omega), mup_ce (by omega), mup_ce (by omega)]; exact g5 q) (fun j q a b => by (repeat (rw [mup_q]; first | rw [if_pos (by omega)] | rw [if_neg (by omega)])); exact all2 j q (by omega) b) (fun j q a1 a2 a3 a4 a5 a6 a7 a8 => by (repeat (rw [mup_q]; first | rw [if_pos (by omega)] | rw [if_neg (by omega)])); exact low2 j q a1 a2 a3 a4 a5 a6 a7 a8)
  have hlx := h
  obtain ⟨x1, x2, x3, x4, x5, x6, x7, x8⟩ := hlx
  refine cMo_next (d := d + 4) (f := f) (L := L) (p := 0) (s := S 0) hX (by rw [fr0 _ _ (by omega)]; exact hL) x1 (fun k hk => ⟨by rw [fr0 _ _ (by omega)]; exact hf k hk, x2 k hk⟩) (by rw [mup_at]; rfl) x7 (fun hs m1 a1 a2 a3 a4 => qcl_v (fin m1 (fun j q a => by rw [a1 j q a, fr0 j q (by omega)]) ?_)) (fun hs => ?_)
  · have hN : N = 0 := by
      rcases Nat.eq_zero_or_pos N with h' | h'
      · exact h'
      · have := (x8 0 h').1; omega
    subst hN
    exact ⟨by rw [a1 _ _ (by omega), fr0 _ _ (by omega)]; exact hL, fun k hk => by rw [a1 _ _ (by omega), fr0 _ _ (by omega)]; exact hf k hk, a3, by rw [a4, hs, x4], by rw [a2, x6], fun z => by rw [x6] at z; exact absurd z (by decide)⟩
  · have hN : 0 < N := by
      rcases Nat.eq_zero_or_pos N with h' | h'
      · rw [h'] at x3; omega
      · exact h'
    exact ⟨E 0, K 0, V 0, G 0, (x8 0 hN).2.2, fun m1 a1 a2 a3 a4 a5 => qcl_v (fin m1 (fun j q a => by rw [a1 j q a, fr0 j q (by omega)]) ⟨by rw [a1 _ _ (by omega), fr0 _ _ (by omega)]; exact hL, fun k hk => by rw [a1 _ _ (by omega), fr0 _ _ (by omega)]; exact hf k hk, a3, a4, a2, a5⟩)⟩
end QST
