/-- from p on there are blanks up to s -/
def skr (f : Nat → Int32) (L p s : Nat) : Prop := p ≤ s ∧ s ≤ L ∧ (∀ j, p ≤ j → j < s → f j = 32) ∧ (s < L → ¬ f s = 32)
/-- the characters from s up to e lie between lo and hi, and no more -/
def rnr (f : Nat → Int32) (L : Nat) (lo hi : Int32) (s e : Nat) : Prop := s < e ∧ e ≤ L ∧ (∀ j, s ≤ j → j < e → ¬ f j < lo ∧ ¬ hi < f j) ∧ (e < L → f e < lo ∨ hi < f e)
def nmb (f : Nat → Int32) (s : Nat) : Nat → Int32
  | 0 => 0
  | i + 1 => nmb f s i * 10 + (f (s + i) - 48)
def wrd (f : Nat → Int32) (s : Nat) (l : List Int32) : Prop := ∀ i c, l[i]? = some c → f (s + i) = c
def isg (c : Int32) : Prop := c = 61 ∨ c = 60 ∨ c = 44 ∨ c = 46 ∨ c = 43 ∨ c = 45 ∨ c = 94
/-- a word's kind -/
def wkd (f : Nat → Int32) (s e : Nat) (k : Int32) : Prop :=
  (k = 3 ∧ e = s + 1) ∨ (k = 6 ∧ e = s + 3 ∧ wrd f s [115, 101, 116]) ∨ (k = 7 ∧ e = s + 3 ∧ wrd f s [111, 117, 116]) ∨ (k = 8 ∧ e = s + 2 ∧ wrd f s [111, 102]) ∨ (k = 9 ∧ e = s + 5 ∧ wrd f s [119, 104, 101, 114, 101]) ∨ (k = 10 ∧ e = s + 3 ∧ wrd f s [97, 110, 100]) ∨
  (k = 2 ∧ ¬ e = s + 1 ∧ ¬ (e = s + 3 ∧ wrd f s [115, 101, 116]) ∧ ¬ (e = s + 3 ∧ wrd f s [111, 117, 116]) ∧ ¬ (e = s + 2 ∧ wrd f s [111, 102]) ∧ ¬ (e = s + 5 ∧ wrd f s [119, 104, 101, 114, 101]) ∧ ¬ (e = s + 3 ∧ wrd f s [97, 110, 100]))
/-- a token from s to e: its kind, its value, and its kind in the reference -/
def tkr (f : Nat → Int32) (L s e : Nat) (k v g : Int32) : Prop :=
  (rnr f L 97 122 s e ∧ wkd f s e k ∧ v = f s ∧ g = 1) ∨ (rnr f L 48 57 s e ∧ e ≤ s + 3 ∧ k = 5 ∧ v = nmb f s (e - s) ∧ g = 3) ∨ (rnr f L 48 57 s e ∧ s + 3 < e ∧ k = 1 ∧ v = 0 ∧ g = 5) ∨
  (s < L ∧ e = s + 1 ∧ ¬ f s < 65 ∧ ¬ 90 < f s ∧ k = 4 ∧ v = f s - 65 ∧ g = 2) ∨
  (s < L ∧ e = s + 1 ∧ isg (f s) ∧ k = f s ∧ v = 0 ∧ g = 4) ∨
  (s < L ∧ e = s + 1 ∧ ¬ isg (f s) ∧ (f s < 97 ∨ 122 < f s) ∧ (f s < 48 ∨ 57 < f s) ∧ (f s < 65 ∨ 90 < f s) ∧ k = 1 ∧ v = 0 ∧ g = 5)
def qLx (f : Nat → Int32) (L N : Nat) (K : Nat → Int32) (S : Nat → Nat) (V : Nat → Int32) (E : Nat → Nat) (G : Nat → Int32) : Prop :=
  L ≤ 200 ∧ (∀ k, k < L → ¬ f k < 32 ∧ f k ≤ 126) ∧ S N = L ∧ E N = L ∧ K N = 0 ∧ G N = 0 ∧ skr f L 0 (S 0) ∧ ∀ n, n < N → S n < L ∧ skr f L (E n) (S (n + 1)) ∧ tkr f L (S n) (E n) (K n) (V n) (G n)
section LEX
variable {d : Nat} {P : qE → Prop} {X : qH} {sw : Bool} {o : Int64} {e : List Nat} {N : Nat} {K V G : Nat → Int32} {S E : Nat → Nat} {f : Nat → Int32} {L : Nat} {mem : Nat → Nat → Int32}
theorem ch_r {c : Int32} (h1 : ¬ c < 32) (h2 : c ≤ 126) : ∃ b : Nat, b < 127 ∧ c = qi b := by
  have h3 : ¬ c < 0 := fun h => h1 (Int32.lt_trans h (by decide))
  obtain ⟨b, hb, e⟩ := qi_of h3
  refine ⟨b, ?_, e⟩
  rw [e] at h2
  have : b ≤ 126 := (qi_le (b := 126) hb (by omega)).mp h2
  omega
theorem cMo_see {p : Nat} (hX : X.length = 13) (hL : mem 193 6 = qi L) (hL2 : L ≤ 200) (hf : ∀ k, k < L → mem 198 k = f k ∧ ¬ f k < 32 ∧ f k ≤ 126) (hp : p < 2000) (k1 : p < L → P (.inl (some (.int (f p))), hpo X mem sw o e)) (k0 : L ≤ p → P (.inl (some (.int 0)), hpo X mem sw o e)) : QW d mMo_see 0 (qen 2 [.ref 193, .int (qi p)]) [] (hpo X mem sw o e) P := by
  have hle : (mem 193 6 ≤ qi p) ↔ L ≤ p := by rw [hL]; exact qi_le (by omega) (by omega)
  refine bMo_see_0 hX (fun z => k0 (hle.mp z)) (fun z => ?_) (fun z => ?_) (fun z => ?_)
  · have : p < L := by have := mt hle.mpr z; omega
    exact qi_inx (by omega) (by omega)
  · have hpl : p < L := by have := mt hle.mpr z; omega
    rw [qi_N (by omega), (hf p hpl).1]
    obtain ⟨b, hb, eb⟩ := ch_r (hf p hpl).2.1 (hf p hpl).2.2
    rw [eb]
    exact ch_n b hb
  · have hpl : p < L := by have := mt hle.mpr z; omega
    rw [qi_N (by omega), (hf p hpl).1]
    exact k1 hpl
theorem cMo_small {c : Int32} (hX : X.length = 13) (k1 : ¬ c < 97 → ¬ 122 < c → P (.inl (some (.int 1)), hpo X mem sw o e)) (k0 : (c < 97 ∨ 122 < c) → P (.inl (some (.int 0)), hpo X mem sw o e)) : QW d mMo_isSmall 0 (qen 1 [.int c]) [] (hpo X mem sw o e) P := bMo_isSmall_0 hX (fun z => k0 (Or.inl z)) (fun _ z => k0 (Or.inr z)) k1
theorem cMo_digit {c : Int32} (hX : X.length = 13) (k1 : ¬ c < 48 → ¬ 57 < c → P (.inl (some (.int 1)), hpo X mem sw o e)) (k0 : (c < 48 ∨ 57 < c) → P (.inl (some (.int 0)), hpo X mem sw o e)) : QW d mMo_isDigit 0 (qen 1 [.int c]) [] (hpo X mem sw o e) P := bMo_isDigit_0 hX (fun z => k0 (Or.inl z)) (fun _ z => k0 (Or.inr z)) k1
theorem cMo_sign {c : Int32} (hX : X.length = 13) (k1 : isg c → P (.inl (some (.int 1)), hpo X mem sw o e)) (k0 : ¬ isg c → P (.inl (some (.int 0)), hpo X mem sw o e)) : QW d mMo_isSign 0 (qen 1 [.int c]) [] (hpo X mem sw o e) P := by
  refine bMo_isSign_0 hX (fun a => bMo_isSign_42 hX (k1 (Or.inl a))) (fun _ a => bMo_isSign_42 hX (k1 (Or.inr (Or.inl a)))) (fun _ _ a => bMo_isSign_42 hX (k1 (Or.inr (Or.inr (Or.inl a))))) (fun _ _ _ a => bMo_isSign_42 hX (k1 (Or.inr (Or.inr (Or.inr (Or.inl a)))))) (fun _ _ _ _ a => bMo_isSign_42 hX (k1 (Or.inr (Or.inr (Or.inr (Or.inr (Or.inl a))))))) (fun _ _ _ _ _ a => bMo_isSign_42 hX (k1 (Or.inr (Or.inr (Or.inr (Or.inr (Or.inr (Or.inl a)))))))) (fun a1 a2 a3 a4 a5 a6 a7 => k0 ?_) (fun _ _ _ _ _ _ a => bMo_isSign_42 hX (k1 (Or.inr (Or.inr (Or.inr (Or.inr (Or.inr (Or.inr a))))))))
  rintro (z | z | z | z | z | z | z)
  · exact a1 z
  · exact a2 z
  · exact a3 z
  · exact a4 z
  · exact a5 z
  · exact a6 z
  · exact a7 z
/-- the reference's next token -/
theorem cMo_next {p s : Nat} (hX : X.length = 13) (hL : mem 193 6 = qi L) (hL2 : L ≤ 200) (hf : ∀ k, k < L → mem 198 k = f k ∧ ¬ f k < 32 ∧ f k ≤ 126) (hp : mem 193 11 = qi p) (hs : skr f L p s)
    (kE : s = L → ∀ m', (∀ j q, ¬ (j = 193 ∧ 9 ≤ q ∧ q < 13) → m' j q = mem j q) → m' 193 9 = 0 → m' 193 10 = qi s → m' 193 11 = qi s → P (.inl none, hpo X m' sw o e))
    (kT : s < L → ∃ en k v g, tkr f L s en k v g ∧ ∀ m', (∀ j q, ¬ (j = 193 ∧ 9 ≤ q ∧ q < 13) → m' j q = mem j q) → m' 193 9 = g → m' 193 10 = qi s → m' 193 11 = qi en → (g = 3 → m' 193 12 = v) → P (.inl none, hpo X m' sw o e)) :
    QW (d + 1) mMo_next 0 (qen 2 [.ref 193]) [] (hpo X mem sw o e) P := by
  obtain ⟨s1, s2, s3, s4⟩ := hs
  -- a run of digits
  have dig : ∀ s en : Nat, s < en → en ≤ L → (∀ j, s ≤ j → j < en → ¬ f j < 48 ∧ ¬ 57 < f j) → (en < L → f en < 48 ∨ 57 < f en) → ∀ n q : Nat, q + n = en → s ≤ q → ∀ {m : Nat → Nat → Int32} {c : Int32}, (∀ j q, ¬ (j = 193 ∧ 9 ≤ q ∧ q < 13) → m j q = mem j q) → m 193 10 = qi s → m 193 11 = qi q → m 193 12 = nmb f s (min (q - s) 3) →
      (∀ m', (∀ j q, ¬ (j = 193 ∧ 9 ≤ q ∧ q < 13) → m' j q = mem j q) → m' 193 9 = (if en - s ≤ 3 then 3 else 5) → m' 193 10 = qi s → m' 193 11 = qi en → m' 193 12 = nmb f s (min (en - s) 3) → P (.inl none, hpo X m' sw o e)) → QW (d + 1) mMo_next 121 (lMo_next_121 c) [] (hpo X m sw o e) P := by
    intro s en r1 r2 r3 r4 n
    induction n with
    | zero =>
      intro q hq hsq m c g1 g2 g3 g4 kk
      obtain rfl : q = en := by omega
      have hL2' : m 193 6 = qi L := by rw [g1 _ _ (by omega)]; exact hL
      have hf2 : ∀ k, k < L → m 198 k = f k ∧ ¬ f k < 32 ∧ f k ≤ 126 := fun k hk => by rw [g1 _ _ (by omega)]; exact hf k hk
      refine bMo_next_121 hX ?_
      rw [g3]
      have fin : QW (d + 1) mMo_next 132 (lMo_next_132 c) [.int 0] (hpo X m sw o e) P := by
        have hle : (m 193 11 - m 193 10 ≤ 3) ↔ q - s ≤ 3 := by rw [g3, g2, qi_sub hsq]; exact qi_le (b := 3) (by omega) (by omega)
        refine bMo_next_132 hX (fun _ z => bMo_next_210 hX ?_) (fun _ z => bMo_next_210 hX ?_) (fun z => absurd rfl z) (fun z => absurd rfl z)
        · exact kk _ (fun j x a => by (repeat (rw [mup_q]; first | rw [if_pos (by omega)] | rw [if_neg (by omega)])); exact g1 j x a) (by (repeat (rw [mup_q]; first | rw [if_pos (by omega)] | rw [if_neg (by omega)])); rw [if_pos (hle.mp z)]) (by (repeat (rw [mup_q]; first | rw [if_pos (by omega)] | rw [if_neg (by omega)])); exact g2) (by (repeat (rw [mup_q]; first | rw [if_pos (by omega)] | rw [if_neg (by omega)])); exact g3) (by (repeat (rw [mup_q]; first | rw [if_pos (by omega)] | rw [if_neg (by omega)])); exact g4)
        · exact kk _ (fun j x a => by (repeat (rw [mup_q]; first | rw [if_pos (by omega)] | rw [if_neg (by omega)])); exact g1 j x a) (by (repeat (rw [mup_q]; first | rw [if_pos (by omega)] | rw [if_neg (by omega)])); rw [if_neg (fun y => z (hle.mpr y))]) (by (repeat (rw [mup_q]; first | rw [if_pos (by omega)] | rw [if_neg (by omega)])); exact g2) (by (repeat (rw [mup_q]; first | rw [if_pos (by omega)] | rw [if_neg (by omega)])); exact g3) (by (repeat (rw [mup_q]; first | rw [if_pos (by omega)] | rw [if_neg (by omega)])); exact g4)
      refine cMo_see (f := f) hX hL2' hL2 hf2 (by omega) (fun z => ?_) (fun z => ?_)
      · exact qcl_i (bMo_next_129 hX (cMo_digit hX (fun y1 y2 => absurd (r4 z) (by rintro (y | y); exact y1 y; exact y2 y)) (fun _ => qcl_i fin)))
      · exact qcl_i (bMo_next_129 hX (cMo_digit hX (fun y1 y2 => absurd (by decide) y1) (fun _ => qcl_i fin)))
    | succ n ih =>
      intro q hq hsq m c g1 g2 g3 g4 kk
      have hL2' : m 193 6 = qi L := by rw [g1 _ _ (by omega)]; exact hL
      have hf2 : ∀ k, k < L → m 198 k = f k ∧ ¬ f k < 32 ∧ f k ≤ 126 := fun k hk => by rw [g1 _ _ (by omega)]; exact hf k hk
      have hq' := r3 q hsq (by omega)
      have hge : ((3 : Int32) ≤ m 193 11 - m 193 10) ↔ 3 ≤ q - s := by rw [g3, g2, qi_sub hsq]; exact qi_le (a := 3) (by omega) (by omega)
      refine bMo_next_121 hX ?_
      rw [g3]
      refine cMo_see (f := f) hX hL2' hL2 hf2 (by omega) (fun z => ?_) (fun z => absurd z (by omega))
      refine qcl_i (bMo_next_129 hX (cMo_digit hX (fun _ _ => ?_) (fun y => absurd y (by rintro (y | y); exact hq'.1 y; exact hq'.2 y))))
      have st : ∀ v : Int32, v = nmb f s (min (q + 1 - s) 3) → QW (d + 1) mMo_next 175 (lMo_next_175 c) [.int v, .ref 193] (hpo X m sw o e) P := by
        intro v hv
        refine bMo_next_175 hX ?_
        refine ih (q + 1) (by omega) (by omega) (fun j x a => by (repeat (rw [mup_q]; first | rw [if_pos (by omega)] | rw [if_neg (by omega)])); exact g1 j x a) (by (repeat (rw [mup_q]; first | rw [if_pos (by omega)] | rw [if_neg (by omega)])); exact g2) (by (repeat (rw [mup_q]; first | rw [if_pos (by omega)] | rw [if_neg (by omega)])); rw [g3, qi_1]) (by (repeat (rw [mup_q]; first | rw [if_pos (by omega)] | rw [if_neg (by omega)])); exact hv) kk
      refine qcl_i (bMo_next_132 hX (fun y => absurd y (by decide)) (fun y => absurd y (by decide)) (fun _ y => st _ ?_) (fun _ y => ?_))
      · have := hge.mp y
        rw [g4]
        congr 1
        omega
      · have hy := mt hge.mpr y
        rw [g3]
        refine cMo_see (f := f) hX hL2' hL2 hf2 (by omega) (fun _ => qcl_i (bMo_next_164 hX (st _ ?_))) (fun z => absurd z (by omega))
        rw [g4, show min (q - s) 3 = q - s by omega, show min (q + 1 - s) 3 = q - s + 1 by omega, nmb, show s + (q - s) = q by omega, Int32.mul_comm, Int32.sub_eq_add_neg, Int32.sub_eq_add_neg, Int32.add_assoc]
  -- the token at s
  have tok : ∀ m : Nat → Nat → Int32, (∀ j q, ¬ (j = 193 ∧ 9 ≤ q ∧ q < 13) → m j q = mem j q) → m 193 10 = qi s → m 193 11 = qi s → ∀ c : Int32, (s < L → c = f s) → QW (d + 1) mMo_next 50 lMo_next_50 [.int c] (hpo X m sw o e) P := by
    intro m hfr h10 h11 c hc
    have hLm : m 193 6 = qi L := by rw [hfr _ _ (by omega)]; exact hL
    have hfm : ∀ k, k < L → m 198 k = f k ∧ ¬ f k < 32 ∧ f k ≤ 126 := fun k hk => by rw [hfr _ _ (by omega)]; exact hf k hk
    have hlt : (m 193 10 < m 193 6) ↔ s < L := by rw [h10, hLm]; exact qi_lt (by omega) (by omega)
    refine bMo_next_50 hX (fun z => ?_) (fun z => ?_)
    · have hsL := hlt.mp z
      have hcf := hc hsL
      subst hcf
      obtain ⟨en, k, v, g, ht, kk⟩ := kT hsL
      rcases ht with ⟨hr, hw, hv, hg⟩ | ⟨hr, h3, hk, hv, hg⟩ | ⟨hr, h3, hk, hv, hg⟩ | ⟨_, he, ha, hb, hk, hv, hg⟩ | ⟨_, he, hi, hk, hv, hg⟩ | ⟨_, he, hi, hx1, hx2, hx3, hk, hv, hg⟩
      · -- a word
        obtain ⟨r1, r2, r3, r4⟩ := hr
        have hin := r3 s (Nat.le_refl _) r1
        refine cMo_small hX (fun _ _ => ?_) (fun z => absurd z (by rintro (y | y); exact hin.1 y; exact hin.2 y))
        refine qcl_i (bMo_next_74 hX (fun z => absurd z (by decide)) (fun _ => ?_))
        have lp : ∀ n q m2, q + n = en → s ≤ q → (∀ j q, ¬ (j = 193 ∧ 9 ≤ q ∧ q < 13) → m2 j q = mem j q) → m2 193 9 = 1 → m2 193 10 = qi s → m2 193 11 = qi q → QW (d + 1) mMo_next 82 (lMo_next_82 (f s)) [] (hpo X m2 sw o e) P := by
          intro n
          induction n with
          | zero =>
            intro q m2 hq hsq g1 g2 g3 g4
            obtain rfl : q = en := by omega
            have hL2' : m2 193 6 = qi L := by rw [g1 _ _ (by omega)]; exact hL
            have hf2 : ∀ k, k < L → m2 198 k = f k ∧ ¬ f k < 32 ∧ f k ≤ 126 := fun k hk => by rw [g1 _ _ (by omega)]; exact hf k hk
            refine bMo_next_82 hX ?_
            rw [g4]
            refine cMo_see (f := f) hX hL2' hL2 hf2 (by omega) (fun z => ?_) (fun z => ?_)
            · refine qcl_i (bMo_next_90 hX (cMo_small hX (fun y1 y2 => absurd (r4 z) (by rintro (y | y); exact y1 y; exact y2 y)) (fun _ => ?_)))
              exact qcl_i (bMo_next_93 hX (fun _ => kk m2 g1 (by rw [g2, hg]) g3 g4 (fun y => by rw [hg] at y; exact absurd y (by decide))) (fun y => absurd rfl y))
            · refine qcl_i (bMo_next_90 hX (cMo_small hX (fun y1 y2 => absurd (by decide) y1) (fun _ => ?_)))
              exact qcl_i (bMo_next_93 hX (fun _ => kk m2 g1 (by rw [g2, hg]) g3 g4 (fun y => by rw [hg] at y; exact absurd y (by decide))) (fun y => absurd rfl y))
          | succ n ih =>
            intro q m2 hq hsq g1 g2 g3 g4
            have hL2' : m2 193 6 = qi L := by rw [g1 _ _ (by omega)]; exact hL
            have hf2 : ∀ k, k < L → m2 198 k = f k ∧ ¬ f k < 32 ∧ f k ≤ 126 := fun k hk => by rw [g1 _ _ (by omega)]; exact hf k hk
            refine bMo_next_82 hX ?_
            rw [g4]
            refine cMo_see (f := f) hX hL2' hL2 hf2 (by omega) (fun z => ?_) (fun z => absurd z (by omega))
            have hq' := r3 q hsq (by omega)
            refine qcl_i (bMo_next_90 hX (cMo_small hX (fun _ _ => ?_) (fun y => absurd y (by rintro (y | y); exact hq'.1 y; exact hq'.2 y))))
            refine qcl_i (bMo_next_93 hX (fun y => absurd y (by decide)) (fun _ => ?_))
            rw [g4, qi_1]
            exact ih (q + 1) _ (by omega) (by omega) (fun j x a => by (repeat (rw [mup_q]; first | rw [if_pos (by omega)] | rw [if_neg (by omega)])); exact g1 j x a) (by (repeat (rw [mup_q]; first | rw [if_pos (by omega)] | rw [if_neg (by omega)])); exact g2) (by (repeat (rw [mup_q]; first | rw [if_pos (by omega)] | rw [if_neg (by omega)])); exact g3) (by (repeat (rw [mup_q]; first | rw [if_pos (by omega)] | rw [if_neg (by omega)])))
        exact lp (en - s) s _ (by omega) (Nat.le_refl _) (fun j q a => by (repeat (rw [mup_q]; first | rw [if_pos (by omega)] | rw [if_neg (by omega)])); exact hfr j q a) (by (repeat (rw [mup_q]; first | rw [if_pos (by omega)] | rw [if_neg (by omega)]))) (by (repeat (rw [mup_q]; first | rw [if_pos (by omega)] | rw [if_neg (by omega)])); exact h10) (by (repeat (rw [mup_q]; first | rw [if_pos (by omega)] | rw [if_neg (by omega)])); exact h11)
      · -- a number
        obtain ⟨r1, r2, r3, r4⟩ := hr
        have hin := r3 s (Nat.le_refl _) r1
        have hns : f s < 97 := Int32.lt_of_le_of_lt (Int32.not_lt.mp hin.2) (by decide)
        refine cMo_small hX (fun z _ => absurd hns z) (fun _ => ?_)
        refine qcl_i (bMo_next_74 hX (fun _ => cMo_digit hX (fun _ _ => ?_) (fun z => absurd z (by rintro (y | y); exact hin.1 y; exact hin.2 y))) (fun z => absurd rfl z))
        refine qcl_i (bMo_next_113 hX (fun z => absurd z (by decide)) (fun z => absurd z (by decide)) (fun z => absurd z (by decide)) (fun _ => ?_))
        refine dig s en r1 r2 r3 r4 (en - s) s (by omega) (Nat.le_refl _) (fun j q a => by (repeat (rw [mup_q]; first | rw [if_pos (by omega)] | rw [if_neg (by omega)])); exact hfr j q a) (by (repeat (rw [mup_q]; first | rw [if_pos (by omega)] | rw [if_neg (by omega)])); exact h10) (by (repeat (rw [mup_q]; first | rw [if_pos (by omega)] | rw [if_neg (by omega)])); exact h11) (by (repeat (rw [mup_q]; first | rw [if_pos (by omega)] | rw [if_neg (by omega)])); rw [Nat.sub_self]; rfl) (fun m' a1 a2 a3 a4 a5 => ?_)
        exact kk m' a1 (by rw [a2, if_pos (by omega), hg]) a3 a4 (fun _ => by rw [a5, hv]; congr 1; omega)
      · -- a number
        obtain ⟨r1, r2, r3, r4⟩ := hr
        have hin := r3 s (Nat.le_refl _) r1
        have hns : f s < 97 := Int32.lt_of_le_of_lt (Int32.not_lt.mp hin.2) (by decide)
        refine cMo_small hX (fun z _ => absurd hns z) (fun _ => ?_)
        refine qcl_i (bMo_next_74 hX (fun _ => cMo_digit hX (fun _ _ => ?_) (fun z => absurd z (by rintro (y | y); exact hin.1 y; exact hin.2 y))) (fun z => absurd rfl z))
        refine qcl_i (bMo_next_113 hX (fun z => absurd z (by decide)) (fun z => absurd z (by decide)) (fun z => absurd z (by decide)) (fun _ => ?_))
        refine dig s en r1 r2 r3 r4 (en - s) s (by omega) (Nat.le_refl _) (fun j q a => by (repeat (rw [mup_q]; first | rw [if_pos (by omega)] | rw [if_neg (by omega)])); exact hfr j q a) (by (repeat (rw [mup_q]; first | rw [if_pos (by omega)] | rw [if_neg (by omega)])); exact h10) (by (repeat (rw [mup_q]; first | rw [if_pos (by omega)] | rw [if_neg (by omega)])); exact h11) (by (repeat (rw [mup_q]; first | rw [if_pos (by omega)] | rw [if_neg (by omega)])); rw [Nat.sub_self]; rfl) (fun m' a1 a2 a3 a4 a5 => ?_)
        exact kk m' a1 (by rw [a2, if_neg (by omega), hg]) a3 a4 (fun y => by rw [hg] at y; exact absurd y (by decide))
      · -- a capital
        have hns : f s < 97 := Int32.lt_of_le_of_lt (Int32.not_lt.mp hb) (by decide)
        have hnd : 57 < f s := Int32.lt_of_lt_of_le (by decide) (Int32.not_lt.mp ha)
        refine cMo_small hX (fun z _ => absurd hns z) (fun _ => ?_)
        refine qcl_i (bMo_next_74 hX (fun _ => cMo_digit hX (fun _ z => absurd hnd z) (fun _ => ?_)) (fun z => absurd rfl z))
        refine qcl_i (bMo_next_113 hX (fun _ z => absurd z ha) (fun _ _ z => absurd z hb) (fun _ _ _ => bMo_next_245 hX ?_) (fun z => absurd rfl z))
        exact kk _ (fun j q a => by (repeat (rw [mup_q]; first | rw [if_pos (by omega)] | rw [if_neg (by omega)])); exact hfr j q a) (by (repeat (rw [mup_q]; first | rw [if_pos (by omega)] | rw [if_neg (by omega)])); rw [hg]) (by (repeat (rw [mup_q]; first | rw [if_pos (by omega)] | rw [if_neg (by omega)])); exact h10) (by (repeat (rw [mup_q]; first | rw [if_pos (by omega)] | rw [if_neg (by omega)])); rw [h11, qi_1, he]) (fun y => by rw [hg] at y; exact absurd y (by decide))
      · -- a sign
        have h1 : f s < 97 ∧ (f s < 48 ∨ 57 < f s) ∧ (f s < 65 ∨ (¬ f s < 65 ∧ 90 < f s)) := by
          rcases hi with z | z | z | z | z | z | z <;> rw [z] <;> decide
        refine cMo_small hX (fun z _ => absurd h1.1 z) (fun _ => ?_)
        refine qcl_i (bMo_next_74 hX (fun _ => cMo_digit hX (fun z1 z2 => absurd h1.2.1 (by rintro (y | y); exact z1 y; exact z2 y)) (fun _ => ?_)) (fun z => absurd rfl z))
        have go : QW (d + 1) mMo_next 233 (lMo_next_233 (f s)) [.ref 193] (hpo X m sw o e) P := by
          refine bMo_next_233 hX (cMo_sign hX (fun _ => qcl_i (bMo_next_237 hX (fun z => absurd z (by decide)) (fun _ => bMo_next_245 hX ?_))) (fun z => absurd hi z))
          exact kk _ (fun j q a => by (repeat (rw [mup_q]; first | rw [if_pos (by omega)] | rw [if_neg (by omega)])); exact hfr j q a) (by (repeat (rw [mup_q]; first | rw [if_pos (by omega)] | rw [if_neg (by omega)])); rw [hg]) (by (repeat (rw [mup_q]; first | rw [if_pos (by omega)] | rw [if_neg (by omega)])); exact h10) (by (repeat (rw [mup_q]; first | rw [if_pos (by omega)] | rw [if_neg (by omega)])); rw [h11, qi_1, he]) (fun y => by rw [hg] at y; exact absurd y (by decide))
        exact qcl_i (bMo_next_113 hX (fun _ _ => go) (fun _ _ _ => go) (fun _ z1 z2 => absurd h1.2.2 (by rintro (y | y); exact z1 y; exact z2 y.2)) (fun z => absurd rfl z))
      · -- no token
        refine cMo_small hX (fun z1 z2 => absurd hx1 (by rintro (y | y); exact z1 y; exact z2 y)) (fun _ => ?_)
        refine qcl_i (bMo_next_74 hX (fun _ => cMo_digit hX (fun z1 z2 => absurd hx2 (by rintro (y | y); exact z1 y; exact z2 y)) (fun _ => ?_)) (fun z => absurd rfl z))
        have go : QW (d + 1) mMo_next 233 (lMo_next_233 (f s)) [.ref 193] (hpo X m sw o e) P := by
          refine bMo_next_233 hX (cMo_sign hX (fun z => absurd z hi) (fun _ => qcl_i (bMo_next_237 hX (fun _ => bMo_next_245 hX ?_) (fun z => absurd rfl z))))
          exact kk _ (fun j q a => by (repeat (rw [mup_q]; first | rw [if_pos (by omega)] | rw [if_neg (by omega)])); exact hfr j q a) (by (repeat (rw [mup_q]; first | rw [if_pos (by omega)] | rw [if_neg (by omega)])); rw [hg]) (by (repeat (rw [mup_q]; first | rw [if_pos (by omega)] | rw [if_neg (by omega)])); exact h10) (by (repeat (rw [mup_q]; first | rw [if_pos (by omega)] | rw [if_neg (by omega)])); rw [h11, qi_1, he]) (fun y => by rw [hg] at y; exact absurd y (by decide))
        exact qcl_i (bMo_next_113 hX (fun _ _ => go) (fun _ _ _ => go) (fun _ z1 z2 => absurd hx3 (by rintro (y | y); exact z1 y; exact z2 y)) (fun z => absurd rfl z))
    · have : s = L := by have := mt hlt.mpr z; omega
      exact kE this _ (fun j q a => by (repeat (rw [mup_q]; first | rw [if_pos (by omega)] | rw [if_neg (by omega)])); exact hfr j q a) (by (repeat (rw [mup_q]; first | rw [if_pos (by omega)] | rw [if_neg (by omega)]))) (by (repeat (rw [mup_q]; first | rw [if_pos (by omega)] | rw [if_neg (by omega)])); exact h10) (by (repeat (rw [mup_q]; first | rw [if_pos (by omega)] | rw [if_neg (by omega)])); exact h11)
  have sk : ∀ n q m, q + n = s → p ≤ q → (∀ j q, ¬ (j = 193 ∧ 9 ≤ q ∧ q < 13) → m j q = mem j q) → m 193 10 = qi q → QW (d + 1) mMo_next 8 lMo_next_8 [] (hpo X m sw o e) P := by
    intro n
    induction n with
    | zero =>
      intro q m hq hpq hfr h10
      obtain rfl : q = s := by omega
      have hLm : m 193 6 = qi L := by rw [hfr _ _ (by omega)]; exact hL
      have hfm : ∀ k, k < L → m 198 k = f k ∧ ¬ f k < 32 ∧ f k ≤ 126 := fun k hk => by rw [hfr _ _ (by omega)]; exact hf k hk
      refine bMo_next_8 hX ?_
      rw [h10]
      have fin : ∀ c : Int32, ¬ c = 32 → QW (d + 1) mMo_next 16 lMo_next_16 [.int c] (hpo X m sw o e) P := by
        intro c hc
        refine bMo_next_16 hX (fun _ => ?_) (fun y => absurd y hc)
        rw [h10]
        rw [show mup m 193 11 (qi q) 193 10 = qi q by (repeat (rw [mup_q]; first | rw [if_pos (by omega)] | rw [if_neg (by omega)])); exact h10]
        have hL3 : mup m 193 11 (qi q) 193 6 = qi L := by (repeat (rw [mup_q]; first | rw [if_pos (by omega)] | rw [if_neg (by omega)])); exact hLm
        have hf3 : ∀ k, k < L → mup m 193 11 (qi q) 198 k = f k ∧ ¬ f k < 32 ∧ f k ≤ 126 := fun k hk => by rw [mup_ce (by omega)]; exact hfm k hk
        have hfr3 : ∀ j x, ¬ (j = 193 ∧ 9 ≤ x ∧ x < 13) → mup m 193 11 (qi q) j x = mem j x := fun j x a => by (repeat (rw [mup_q]; first | rw [if_pos (by omega)] | rw [if_neg (by omega)])); exact hfr j x a
        refine cMo_see (f := f) hX hL3 hL2 hf3 (by omega) (fun z => qcl_i (tok _ hfr3 (by (repeat (rw [mup_q]; first | rw [if_pos (by omega)] | rw [if_neg (by omega)])); exact h10) (by (repeat (rw [mup_q]; first | rw [if_pos (by omega)] | rw [if_neg (by omega)]))) _ (fun _ => rfl))) (fun z => qcl_i (tok _ hfr3 (by (repeat (rw [mup_q]; first | rw [if_pos (by omega)] | rw [if_neg (by omega)])); exact h10) (by (repeat (rw [mup_q]; first | rw [if_pos (by omega)] | rw [if_neg (by omega)]))) _ (fun y => absurd y (by omega))))
      refine cMo_see (f := f) hX hLm hL2 hfm (by omega) (fun z => qcl_i (fin _ (s4 z))) (fun _ => qcl_i (fin _ (by decide)))
    | succ n ih =>
      intro q m hq hpq hfr h10
      have hLm : m 193 6 = qi L := by rw [hfr _ _ (by omega)]; exact hL
      have hfm : ∀ k, k < L → m 198 k = f k ∧ ¬ f k < 32 ∧ f k ≤ 126 := fun k hk => by rw [hfr _ _ (by omega)]; exact hf k hk
      refine bMo_next_8 hX ?_
      rw [h10]
      refine cMo_see (f := f) hX hLm hL2 hfm (by omega) (fun z => qcl_i (bMo_next_16 hX (fun y => absurd (s3 q hpq (by omega)) y) (fun _ => ?_))) (fun z => absurd z (by omega))
      rw [h10, qi_1]
      exact ih (q + 1) _ (by omega) (by omega) (fun j x a => by (repeat (rw [mup_q]; first | rw [if_pos (by omega)] | rw [if_neg (by omega)])); exact hfr j x a) (by (repeat (rw [mup_q]; first | rw [if_pos (by omega)] | rw [if_neg (by omega)])))
  refine bMo_next_0 hX ?_
  exact sk (s - p) p _ (by omega) (Nat.le_refl _) (fun j q a => by (repeat (rw [mup_q]; first | rw [if_pos (by omega)] | rw [if_neg (by omega)]))) (by (repeat (rw [mup_q]; first | rw [if_pos (by omega)] | rw [if_neg (by omega)])); exact hp)
end LEX
