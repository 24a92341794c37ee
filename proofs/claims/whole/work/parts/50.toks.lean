/-- the reference stands at token n -/
def mtk (mem : Nat → Nat → Int32) (f : Nat → Int32) (L : Nat) (S : Nat → Nat) (V : Nat → Int32) (E : Nat → Nat) (G : Nat → Int32) (n : Nat) : Prop :=
  mem 193 6 = qi L ∧ (∀ k, k < L → mem 198 k = f k) ∧ mem 193 10 = qi (S n) ∧ mem 193 11 = qi (E n) ∧ mem 193 9 = G n ∧ (G n = 3 → mem 193 12 = V n)
/-- a value as the reference writes it before it is resolved -/
def enc (v : qV) : Int32 := if v.1 = 0 then 2000 + v.2 else 10000 + 1000 * (v.1 - 97) + v.2
section TKS
variable {d : Nat} {P : qE → Prop} {X : qH} {sw : Bool} {o : Int64} {e : List Nat} {N n : Nat} {K V G : Nat → Int32} {S E : Nat → Nat} {f : Nat → Int32} {L : Nat} {mem : Nat → Nat → Int32}
theorem mtk_mono {mem' : Nat → Nat → Int32} (h : mtk mem f L S V E G n) (e1 : ∀ q, 6 ≤ q → q < 13 → mem' 193 q = mem 193 q) (e2 : ∀ q, mem' 198 q = mem 198 q) : mtk mem' f L S V E G n := by
  obtain ⟨h1, h2, h3, h4, h5, h6⟩ := h
  exact ⟨by rw [e1 _ (by omega) (by omega)]; exact h1, fun k hk => by rw [e2]; exact h2 k hk, by rw [e1 _ (by omega) (by omega)]; exact h3, by rw [e1 _ (by omega) (by omega)]; exact h4, by rw [e1 _ (by omega) (by omega)]; exact h5, fun g => by rw [e1 _ (by omega) (by omega)]; exact h6 g⟩
theorem tk_k {s en : Nat} {k v g : Int32} (h : tkr f L s en k v g) : (g = 1 ∧ wkd f s en k ∧ v = f s ∧ rnr f L 97 122 s en) ∨ (g = 3 ∧ k = 5 ∧ v = nmb f s (en - s) ∧ en ≤ s + 3 ∧ rnr f L 48 57 s en) ∨ (g = 5 ∧ k = 1) ∨ (g = 2 ∧ k = 4 ∧ v = f s - 65 ∧ ¬ f s < 65 ∧ ¬ 90 < f s) ∨ (g = 4 ∧ isg k ∧ k = f s) := by
  rcases h with ⟨hr, hw, hv, hg⟩ | ⟨hr, h3, hk, hv, hg⟩ | ⟨hr, h3, hk, hv, hg⟩ | ⟨_, he, ha, hb, hk, hv, hg⟩ | ⟨_, he, hi, hk, hv, hg⟩ | ⟨_, he, hi, hx1, hx2, hx3, hk, hv, hg⟩
  · exact Or.inl ⟨hg, hw, hv, hr⟩
  · exact Or.inr (Or.inl ⟨hg, hk, hv, h3, hr⟩)
  · exact Or.inr (Or.inr (Or.inl ⟨hg, hk⟩))
  · exact Or.inr (Or.inr (Or.inr (Or.inl ⟨hg, hk, hv, ha, hb⟩)))
  · exact Or.inr (Or.inr (Or.inr (Or.inr ⟨hg, by rw [hk]; exact hi, hk⟩)))
  · exact Or.inr (Or.inr (Or.inl ⟨hg, hk⟩))
theorem wk_k {s en : Nat} {k : Int32} (h : wkd f s en k) : k = 3 ∨ k = 6 ∨ k = 7 ∨ k = 8 ∨ k = 9 ∨ k = 10 ∨ k = 2 := by
  rcases h with h | h | h | h | h | h | h
  · exact Or.inl h.1
  · exact Or.inr (Or.inl h.1)
  · exact Or.inr (Or.inr (Or.inl h.1))
  · exact Or.inr (Or.inr (Or.inr (Or.inl h.1)))
  · exact Or.inr (Or.inr (Or.inr (Or.inr (Or.inl h.1))))
  · exact Or.inr (Or.inr (Or.inr (Or.inr (Or.inr (Or.inl h.1)))))
  · exact Or.inr (Or.inr (Or.inr (Or.inr (Or.inr (Or.inr h.1)))))
theorem isg_b {c : Int32} (h : isg c) : ¬ c ≤ 10 := by
  rcases h with z | z | z | z | z | z | z <;> rw [z] <;> decide
theorem wk_b {s en : Nat} {k : Int32} (h : wkd f s en k) : k ≤ 10 ∧ ¬ k = 5 ∧ ¬ k = 4 ∧ ¬ k = 1 ∧ ¬ k = 0 := by
  rcases wk_k h with z | z | z | z | z | z | z <;> rw [z] <;> decide
theorem lx_tk (h : qLx f L N K S V E G) (hn : n ≤ N) : (n = N ∧ K n = 0 ∧ G n = 0) ∨ (n < N ∧ S n < L ∧ tkr f L (S n) (E n) (K n) (V n) (G n)) := by
  rcases Nat.lt_or_eq_of_le hn with h' | h'
  · exact Or.inr ⟨h', (h.2.2.2.2.2.2.2 n h').1, (h.2.2.2.2.2.2.2 n h').2.2⟩
  · subst h'
    exact Or.inl ⟨rfl, h.2.2.2.2.1, h.2.2.2.2.2.1⟩
theorem lx_sign {c : Int32} (h : qLx f L N K S V E G) (hn : n ≤ N) (hc : isg c) : K n = c ↔ (G n = 4 ∧ f (S n) = c) := by
  have hcb := isg_b hc
  rcases lx_tk h hn with ⟨_, h1, h2⟩ | ⟨_, _, ht⟩
  · rw [h1, h2]
    exact ⟨fun z => absurd (by rw [← z]; decide) hcb, fun z => absurd z.1 (by decide)⟩
  · rcases tk_k ht with ⟨hg, hw, _⟩ | ⟨hg, hk, _⟩ | ⟨hg, hk⟩ | ⟨hg, hk, _⟩ | ⟨hg, hi, hk⟩
    · have := (wk_b hw).1
      rw [hg]
      exact ⟨fun z => absurd (by rw [← z]; exact this) hcb, fun z => absurd z.1 (by decide)⟩
    · rw [hg, hk]
      exact ⟨fun z => absurd (by rw [← z]; decide) hcb, fun z => absurd z.1 (by decide)⟩
    · rw [hg, hk]
      exact ⟨fun z => absurd (by rw [← z]; decide) hcb, fun z => absurd z.1 (by decide)⟩
    · rw [hg, hk]
      exact ⟨fun z => absurd (by rw [← z]; decide) hcb, fun z => absurd z.1 (by decide)⟩
    · rw [hg, ← hk]
      exact ⟨fun z => ⟨rfl, z⟩, fun z => z.2⟩
theorem lx_end (h : qLx f L N K S V E G) (hn : n ≤ N) : (K n = 0 ↔ n = N) ∧ (G n = 0 ↔ n = N) := by
  rcases lx_tk h hn with ⟨h0, h1, h2⟩ | ⟨h0, _, ht⟩
  · exact ⟨⟨fun _ => h0, fun _ => h1⟩, ⟨fun _ => h0, fun _ => h2⟩⟩
  · have hne : ¬ n = N := by omega
    rcases tk_k ht with ⟨hg, hw, _⟩ | ⟨hg, hk, _⟩ | ⟨hg, hk⟩ | ⟨hg, hk, _⟩ | ⟨hg, hi, hk⟩
    · exact ⟨⟨fun z => absurd z (wk_b hw).2.2.2.2, fun z => absurd z hne⟩, ⟨fun z => absurd z (by rw [hg]; decide), fun z => absurd z hne⟩⟩
    · exact ⟨⟨fun z => absurd z (by rw [hk]; decide), fun z => absurd z hne⟩, ⟨fun z => absurd z (by rw [hg]; decide), fun z => absurd z hne⟩⟩
    · exact ⟨⟨fun z => absurd z (by rw [hk]; decide), fun z => absurd z hne⟩, ⟨fun z => absurd z (by rw [hg]; decide), fun z => absurd z hne⟩⟩
    · exact ⟨⟨fun z => absurd z (by rw [hk]; decide), fun z => absurd z hne⟩, ⟨fun z => absurd z (by rw [hg]; decide), fun z => absurd z hne⟩⟩
    · exact ⟨⟨fun z => absurd (by rw [z]; decide) (isg_b hi), fun z => absurd z hne⟩, ⟨fun z => absurd z (by rw [hg]; decide), fun z => absurd z hne⟩⟩
theorem lx_num (h : qLx f L N K S V E G) (hn : n ≤ N) : K n = 5 ↔ G n = 3 := by
  rcases lx_tk h hn with ⟨_, h1, h2⟩ | ⟨_, _, ht⟩
  · rw [h1, h2]; decide
  · rcases tk_k ht with ⟨hg, hw, _⟩ | ⟨hg, hk, _⟩ | ⟨hg, hk⟩ | ⟨hg, hk, _⟩ | ⟨hg, hi, hk⟩
    · rw [hg]
      exact ⟨fun z => absurd z (wk_b hw).2.1, fun z => absurd z (by decide)⟩
    · rw [hg, hk]; decide
    · rw [hg, hk]; decide
    · rw [hg, hk]; decide
    · rw [hg]
      exact ⟨fun z => absurd (by rw [z]; decide) (isg_b hi), fun z => absurd z (by decide)⟩
theorem lx_cap (h : qLx f L N K S V E G) (hn : n ≤ N) : (K n = 4 ↔ G n = 2) ∧ (K n = 4 → V n = f (S n) - 65 ∧ n < N ∧ ¬ f (S n) < 65 ∧ ¬ 90 < f (S n)) := by
  rcases lx_tk h hn with ⟨_, h1, h2⟩ | ⟨h0, _, ht⟩
  · rw [h1, h2]
    exact ⟨by decide, fun z => absurd z (by decide)⟩
  · rcases tk_k ht with ⟨hg, hw, _⟩ | ⟨hg, hk, _⟩ | ⟨hg, hk⟩ | ⟨hg, hk, hv, ha, hb⟩ | ⟨hg, hi, hk⟩
    · rw [hg]
      exact ⟨⟨fun z => absurd z (wk_b hw).2.2.1, fun z => absurd z (by decide)⟩, fun z => absurd z (wk_b hw).2.2.1⟩
    · rw [hg, hk]; exact ⟨by decide, fun z => absurd z (by decide)⟩
    · rw [hg, hk]; exact ⟨by decide, fun z => absurd z (by decide)⟩
    · rw [hg, hk]; exact ⟨by decide, fun _ => ⟨hv, h0, ha, hb⟩⟩
    · rw [hg]
      exact ⟨⟨fun z => absurd (by rw [z]; decide) (isg_b hi), fun z => absurd z (by decide)⟩, fun z => absurd (by rw [z]; decide) (isg_b hi)⟩
/-- the reference's kind is WORD where the class has one of its words -/
theorem lx_word (h : qLx f L N K S V E G) (hn : n ≤ N) : (G n = 1 ∧ wkd f (S n) (E n) (K n) ∧ n < N ∧ V n = f (S n) ∧ rnr f L 97 122 (S n) (E n)) ∨ (¬ G n = 1 ∧ ¬ K n = 3 ∧ ¬ K n = 6 ∧ ¬ K n = 7 ∧ ¬ K n = 8 ∧ ¬ K n = 9 ∧ ¬ K n = 10) := by
  rcases lx_tk h hn with ⟨_, h1, h2⟩ | ⟨h0, _, ht⟩
  · rw [h1, h2]; exact Or.inr (by decide)
  · rcases tk_k ht with ⟨hg, hw, hv, hr⟩ | ⟨hg, hk, _⟩ | ⟨hg, hk⟩ | ⟨hg, hk, _⟩ | ⟨hg, hi, hk⟩
    · exact Or.inl ⟨hg, hw, h0, hv, hr⟩
    · rw [hg, hk]; exact Or.inr (by decide)
    · rw [hg, hk]; exact Or.inr (by decide)
    · rw [hg, hk]; exact Or.inr (by decide)
    · rw [hg]
      have hb := isg_b hi
      exact Or.inr ⟨by decide, fun z => hb (by rw [z]; decide), fun z => hb (by rw [z]; decide), fun z => hb (by rw [z]; decide), fun z => hb (by rw [z]; decide), fun z => hb (by rw [z]; decide), fun z => hb (by rw [z]; decide)⟩
theorem wrd3 {s : Nat} {a b c : Int32} : wrd f s [a, b, c] ↔ (f s = a ∧ f (s + 1) = b ∧ f (s + 2) = c) := by
  constructor
  · intro h
    exact ⟨h 0 a rfl, h 1 b rfl, h 2 c rfl⟩
  · rintro ⟨h1, h2, h3⟩ i x hx
    rcases i with _ | _ | _ | i
    · cases hx; exact h1
    · cases hx; exact h2
    · cases hx; exact h3
    · simp at hx
theorem wrd2 {s : Nat} {a b : Int32} : wrd f s [a, b] ↔ (f s = a ∧ f (s + 1) = b) := by
  constructor
  · intro h
    exact ⟨h 0 a rfl, h 1 b rfl⟩
  · rintro ⟨h1, h2⟩ i x hx
    rcases i with _ | _ | i
    · cases hx; exact h1
    · cases hx; exact h2
    · simp at hx
theorem wrd5 {s : Nat} {a b c p q : Int32} : wrd f s [a, b, c, p, q] ↔ (f s = a ∧ f (s + 1) = b ∧ f (s + 2) = c ∧ f (s + 3) = p ∧ f (s + 4) = q) := by
  constructor
  · intro h
    exact ⟨h 0 a rfl, h 1 b rfl, h 2 c rfl, h 3 p rfl, h 4 q rfl⟩
  · rintro ⟨h1, h2, h3, h4, h5⟩ i x hx
    rcases i with _ | _ | _ | _ | _ | i
    · cases hx; exact h1
    · cases hx; exact h2
    · cases hx; exact h3
    · cases hx; exact h4
    · cases hx; exact h5
    · simp at hx
theorem cMo_isIt {c : Int32} (hX : X.length = 13) (h : qLx f L N K S V E G) (hn : n ≤ N) (hm : mtk mem f L S V E G n) (hc : isg c) (k1 : K n = c → n < N → P (.inl (some (.int 1)), hpo X mem sw o e)) (k0 : ¬ K n = c → P (.inl (some (.int 0)), hpo X mem sw o e)) : QW d mMo_isIt 0 (qen 2 [.ref 193, .int c]) [] (hpo X mem sw o e) P := by
  have hs := lx_sign h hn hc
  obtain ⟨h1, h2, h3, h4, h5, h6⟩ := hm
  have hlt : G n = 4 → n < N ∧ S n < L := fun g => by
    rcases lx_tk h hn with ⟨_, _, h2⟩ | ⟨h0, h1, _⟩
    · rw [h2] at g; exact absurd g (by decide)
    · exact ⟨h0, h1⟩
  have hL := h.1
  refine bMo_isIt_0 hX (fun z => k0 (fun y => z (by rw [h5]; exact (hs.mp y).1))) (fun z => ?_) (fun z1 z2 => ?_) (fun z1 z2 => ?_)
  · rw [h5] at z
    rw [h3]
    exact qi_inx (by have := (hlt z).2; omega) (by omega)
  · rw [h5] at z1
    have := hlt z1
    rw [h3, qi_N (by omega), h2 _ this.2] at z2
    exact k0 (fun y => z2 (hs.mp y).2)
  · rw [h5] at z1
    have := hlt z1
    rw [h3, qi_N (by omega), h2 _ this.2] at z2
    exact k1 (hs.mpr ⟨z1, z2⟩) this.1
theorem cMo_nextT (hX : X.length = 13) (h : qLx f L N K S V E G) (hn : n < N) (hm : mtk mem f L S V E G n) (k : ∀ m', (∀ j q, ¬ (j = 193 ∧ 9 ≤ q ∧ q < 13) → m' j q = mem j q) → mtk m' f L S V E G (n + 1) → P (.inl none, hpo X m' sw o e)) : QW (d + 1) mMo_next 0 (qen 2 [.ref 193]) [] (hpo X mem sw o e) P := by
  obtain ⟨h1, h2, h3, h4, h5, h6⟩ := hm
  have hL := h.1
  have hch := h.2.1
  refine cMo_next (f := f) (L := L) hX h1 hL (fun k hk => ⟨h2 k hk, hch k hk⟩) h4 (h.2.2.2.2.2.2.2 n hn).2.1 (fun hs m' a1 a2 a3 a4 => k m' a1 ?_) (fun hs => ?_)
  · have hnN : n + 1 = N := by
      rcases lx_tk h (n := n + 1) hn with ⟨h0, _⟩ | ⟨_, h0, _⟩
      · exact h0
      · omega
    refine ⟨by rw [a1 _ _ (by omega)]; exact h1, fun k hk => by rw [a1 _ _ (by omega)]; exact h2 k hk, a3, ?_, ?_, ?_⟩
    · rw [a4, hs, hnN, h.2.2.2.1]
    · rw [a2, hnN, h.2.2.2.2.2.1]
    · rw [hnN, h.2.2.2.2.2.1]
      exact fun z => absurd z (by decide)
  · have hnN : n + 1 < N := by
      rcases lx_tk h (n := n + 1) hn with ⟨h0, _⟩ | ⟨h0, _⟩
      · rw [h0, h.2.2.1] at hs; omega
      · exact h0
    refine ⟨E (n + 1), K (n + 1), V (n + 1), G (n + 1), (h.2.2.2.2.2.2.2 (n + 1) hnN).2.2, fun m' a1 a2 a3 a4 a5 => k m' a1 ⟨by rw [a1 _ _ (by omega)]; exact h1, fun k hk => by rw [a1 _ _ (by omega)]; exact h2 k hk, a3, a4, a2, a5⟩⟩
theorem cMo_passes {c : Int32} (hX : X.length = 13) (h : qLx f L N K S V E G) (hn : n ≤ N) (hm : mtk mem f L S V E G n) (hc : isg c) (k1 : K n = c → n < N → ∀ m', (∀ j q, ¬ (j = 193 ∧ 9 ≤ q ∧ q < 13) → m' j q = mem j q) → mtk m' f L S V E G (n + 1) → P (.inl (some (.int 1)), hpo X m' sw o e)) (k0 : ¬ K n = c → P (.inl (some (.int 0)), hpo X mem sw o e)) : QW (d + 1 + 1) mMo_passes 0 (qen 3 [.ref 193, .int c]) [] (hpo X mem sw o e) P := by
  refine bMo_passes_0 hX (cMo_isIt hX h hn hm hc (fun x y => ?_) (fun x => ?_))
  · refine qcl_i (bMo_passes_5 hX (fun z => absurd z (by decide)) (fun _ => cMo_nextT hX h y hm (fun m' a1 a2 => qcl_v (bMo_passes_14 hX (by decide) (k1 x y m' a1 a2)))))
  · exact qcl_i (bMo_passes_5 hX (fun _ => bMo_passes_14 hX (by decide) (k0 x)) (fun z => absurd rfl z))
theorem cMo_passW {b : Int32} (hX : X.length = 13) (h : qLx f L N K S V E G) (hm : mtk mem f L S V E G n) (k1 : b = 1 → n < N ∧ ∀ m', (∀ j q, ¬ (j = 193 ∧ 9 ≤ q ∧ q < 13) → m' j q = mem j q) → mtk m' f L S V E G (n + 1) → P (.inl (some (.int 1)), hpo X m' sw o e)) (k0 : b = 0 → P (.inl (some (.int 0)), hpo X mem sw o e)) (hb : b = 0 ∨ b = 1) : QW (d + 1 + 1) mMo_passesWord 0 (qen 2 [.ref 193, .int b]) [] (hpo X mem sw o e) P := by
  rcases hb with rfl | rfl
  · exact bMo_passesWord_0 hX (fun _ => bMo_passesWord_8 hX (by decide) (k0 rfl)) (fun z => absurd rfl z)
  · exact bMo_passesWord_0 hX (fun z => absurd z (by decide)) (fun _ => cMo_nextT hX h (k1 rfl).1 hm (fun m' a1 a2 => qcl_v (bMo_passesWord_8 hX (by decide) ((k1 rfl).2 m' a1 a2))))
/-- the reference asks for a word of three letters or two -/
theorem cMo_isWord {q : Nat} {a b c : Int32} (hX : X.length = 13) (h : qLx f L N K S V E G) (hn : n ≤ N) (hm : mtk mem f L S V E G n) (hq : q = 2 ∨ q = 3) (k1 : G n = 1 → n < N → E n = S n + q → f (S n) = a → f (S n + 1) = b → (q = 2 ∨ f (S n + 2) = c) → P (.inl (some (.int 1)), hpo X mem sw o e)) (k0 : ¬ (G n = 1 ∧ E n = S n + q ∧ f (S n) = a ∧ f (S n + 1) = b ∧ (q = 2 ∨ f (S n + 2) = c)) → P (.inl (some (.int 0)), hpo X mem sw o e)) : QW d mMo_isWord 0 (qen 5 [.ref 193, .int (qi q), .int a, .int b, .int c]) [] (hpo X mem sw o e) P := by
  obtain ⟨h1, h2, h3, h4, h5, h6⟩ := hm
  have hL := h.1
  have hw : G n = 1 → n < N ∧ S n < E n ∧ E n ≤ L := fun g => by
    rcases lx_word h hn with ⟨_, _, h0, _, hr⟩ | ⟨h0, _⟩
    · exact ⟨h0, hr.1, hr.2.1⟩
    · exact absurd g h0
  have hd : G n = 1 → ((mem 193 11 - mem 193 10 = qi q) ↔ E n = S n + q) := fun g => by
    have := hw g
    rw [h4, h3, qi_sub (by omega)]
    constructor
    · intro z
      have := qi_inj (by omega) (by omega) z
      omega
    · intro z
      congr 1
      omega
  rw [← h5] at hw hd k1 k0
  have hN1 : ∀ i, i < 3 → qi (S n) + qi i = qi (S n + i) := fun i _ => qi_add _ _
  have e1 : mem 193 10 + 1 = qi (S n + 1) := by rw [h3, qi_1]
  have e2 : mem 193 10 + 2 = qi (S n + 2) := by rw [h3]; exact qi_add _ 2
  refine bMo_isWord_0 hX (fun z => k0 (fun y => z y.1)) (fun z1 z2 => k0 (fun y => z2 ((hd z1).mpr y.2.1))) (fun z1 z2 => ?_) (fun z1 z2 z3 => ?_) (fun z1 z2 z3 => ?_) (fun z1 z2 z3 z4 => ?_) (fun z1 z2 z3 z4 z5 => ?_) (fun z1 z2 z3 z4 z5 => ?_) (fun z1 z2 z3 z4 z5 z6 => ?_) (fun z1 z2 z3 z4 z5 z6 => ?_)
  · have := hw z1
    rw [h3]; exact qi_inx (by omega) (by omega)
  · have := hw z1
    rw [h3, qi_N (by omega), h2 _ (by omega)] at z3
    exact k0 (fun y => z3 y.2.2.1)
  · have := hw z1
    have := (hd z1).mp z2
    rw [e1]; exact qi_inx (by omega) (by omega)
  · have := hw z1
    have := (hd z1).mp z2
    rw [e1, qi_N (by omega), h2 _ (by omega)] at z4
    exact k0 (fun y => z4 y.2.2.2.1)
  · have := hw z1
    have he := (hd z1).mp z2
    rw [h3, qi_N (by omega), h2 _ (by omega)] at z3
    rw [e1, qi_N (by omega), h2 _ (by omega)] at z4
    exact bMo_isWord_70 hX (k1 z1 this.1 he z3 z4 (Or.inl (qi_inj (by omega) (by omega) (b := 2) z5)))
  · have := hw z1
    have he := (hd z1).mp z2
    have hq3 : q = 3 := by
      rcases hq with rfl | rfl
      · exact absurd rfl z5
      · rfl
    rw [e2]; exact qi_inx (by omega) (by omega)
  · have := hw z1
    have he := (hd z1).mp z2
    have hq3 : q = 3 := by
      rcases hq with rfl | rfl
      · exact absurd rfl z5
      · rfl
    rw [e2, qi_N (by omega), h2 _ (by omega)] at z6
    exact k0 (fun y => by
      rcases y.2.2.2.2 with y' | y'
      · omega
      · exact z6 y')
  · have := hw z1
    have he := (hd z1).mp z2
    have hq3 : q = 3 := by
      rcases hq with rfl | rfl
      · exact absurd rfl z5
      · rfl
    rw [h3, qi_N (by omega), h2 _ (by omega)] at z3
    rw [e1, qi_N (by omega), h2 _ (by omega)] at z4
    rw [e2, qi_N (by omega), h2 _ (by omega)] at z6
    exact bMo_isWord_70 hX (k1 z1 this.1 he z3 z4 (Or.inr z6))
end TKS
