section WKS
variable {d : Nat} {P : qE → Prop} {X : qH} {sw : Bool} {o : Int64} {e : List Nat} {N n : Nat} {K V G : Nat → Int32} {S E : Nat → Nat} {f : Nat → Int32} {L : Nat} {mem : Nat → Nat → Int32}
theorem wk_set {s en : Nat} {k : Int32} (h : wkd f s en k) : k = 6 ↔ (en = s + 3 ∧ wrd f s [115, 101, 116]) := by
  rcases h with h | h | h | h | h | h | h
  · exact ⟨fun z => absurd (h.1.symm.trans z) (by decide), fun z => by have := h.2; have := z.1; omega⟩
  · exact ⟨fun _ => h.2, fun _ => h.1⟩
  · exact ⟨fun z => absurd (h.1.symm.trans z) (by decide), fun z => absurd ((h.2.2 0 _ rfl).symm.trans (z.2 0 _ rfl)) (by decide)⟩
  · exact ⟨fun z => absurd (h.1.symm.trans z) (by decide), fun z => by have := h.2.1; have := z.1; omega⟩
  · exact ⟨fun z => absurd (h.1.symm.trans z) (by decide), fun z => by have := h.2.1; have := z.1; omega⟩
  · exact ⟨fun z => absurd (h.1.symm.trans z) (by decide), fun z => absurd ((h.2.2 0 _ rfl).symm.trans (z.2 0 _ rfl)) (by decide)⟩
  · exact ⟨fun z => absurd (h.1.symm.trans z) (by decide), fun z => absurd z h.2.2.1⟩
theorem wk_out {s en : Nat} {k : Int32} (h : wkd f s en k) : k = 7 ↔ (en = s + 3 ∧ wrd f s [111, 117, 116]) := by
  rcases h with h | h | h | h | h | h | h
  · exact ⟨fun z => absurd (h.1.symm.trans z) (by decide), fun z => by have := h.2; have := z.1; omega⟩
  · exact ⟨fun z => absurd (h.1.symm.trans z) (by decide), fun z => absurd ((h.2.2 0 _ rfl).symm.trans (z.2 0 _ rfl)) (by decide)⟩
  · exact ⟨fun _ => h.2, fun _ => h.1⟩
  · exact ⟨fun z => absurd (h.1.symm.trans z) (by decide), fun z => by have := h.2.1; have := z.1; omega⟩
  · exact ⟨fun z => absurd (h.1.symm.trans z) (by decide), fun z => by have := h.2.1; have := z.1; omega⟩
  · exact ⟨fun z => absurd (h.1.symm.trans z) (by decide), fun z => absurd ((h.2.2 0 _ rfl).symm.trans (z.2 0 _ rfl)) (by decide)⟩
  · exact ⟨fun z => absurd (h.1.symm.trans z) (by decide), fun z => absurd z h.2.2.2.1⟩
theorem wk_of {s en : Nat} {k : Int32} (h : wkd f s en k) : k = 8 ↔ (en = s + 2 ∧ wrd f s [111, 102]) := by
  rcases h with h | h | h | h | h | h | h
  · exact ⟨fun z => absurd (h.1.symm.trans z) (by decide), fun z => by have := h.2; have := z.1; omega⟩
  · exact ⟨fun z => absurd (h.1.symm.trans z) (by decide), fun z => by have := h.2.1; have := z.1; omega⟩
  · exact ⟨fun z => absurd (h.1.symm.trans z) (by decide), fun z => by have := h.2.1; have := z.1; omega⟩
  · exact ⟨fun _ => h.2, fun _ => h.1⟩
  · exact ⟨fun z => absurd (h.1.symm.trans z) (by decide), fun z => by have := h.2.1; have := z.1; omega⟩
  · exact ⟨fun z => absurd (h.1.symm.trans z) (by decide), fun z => by have := h.2.1; have := z.1; omega⟩
  · exact ⟨fun z => absurd (h.1.symm.trans z) (by decide), fun z => absurd z h.2.2.2.2.1⟩
theorem wk_where {s en : Nat} {k : Int32} (h : wkd f s en k) : k = 9 ↔ (en = s + 5 ∧ wrd f s [119, 104, 101, 114, 101]) := by
  rcases h with h | h | h | h | h | h | h
  · exact ⟨fun z => absurd (h.1.symm.trans z) (by decide), fun z => by have := h.2; have := z.1; omega⟩
  · exact ⟨fun z => absurd (h.1.symm.trans z) (by decide), fun z => by have := h.2.1; have := z.1; omega⟩
  · exact ⟨fun z => absurd (h.1.symm.trans z) (by decide), fun z => by have := h.2.1; have := z.1; omega⟩
  · exact ⟨fun z => absurd (h.1.symm.trans z) (by decide), fun z => by have := h.2.1; have := z.1; omega⟩
  · exact ⟨fun _ => h.2, fun _ => h.1⟩
  · exact ⟨fun z => absurd (h.1.symm.trans z) (by decide), fun z => by have := h.2.1; have := z.1; omega⟩
  · exact ⟨fun z => absurd (h.1.symm.trans z) (by decide), fun z => absurd z h.2.2.2.2.2.1⟩
theorem wk_and {s en : Nat} {k : Int32} (h : wkd f s en k) : k = 10 ↔ (en = s + 3 ∧ wrd f s [97, 110, 100]) := by
  rcases h with h | h | h | h | h | h | h
  · exact ⟨fun z => absurd (h.1.symm.trans z) (by decide), fun z => by have := h.2; have := z.1; omega⟩
  · exact ⟨fun z => absurd (h.1.symm.trans z) (by decide), fun z => absurd ((h.2.2 0 _ rfl).symm.trans (z.2 0 _ rfl)) (by decide)⟩
  · exact ⟨fun z => absurd (h.1.symm.trans z) (by decide), fun z => absurd ((h.2.2 0 _ rfl).symm.trans (z.2 0 _ rfl)) (by decide)⟩
  · exact ⟨fun z => absurd (h.1.symm.trans z) (by decide), fun z => by have := h.2.1; have := z.1; omega⟩
  · exact ⟨fun z => absurd (h.1.symm.trans z) (by decide), fun z => by have := h.2.1; have := z.1; omega⟩
  · exact ⟨fun _ => h.2, fun _ => h.1⟩
  · exact ⟨fun z => absurd (h.1.symm.trans z) (by decide), fun z => absurd z h.2.2.2.2.2.2⟩
theorem wk_name {s en : Nat} {k : Int32} (h : wkd f s en k) : k = 3 ↔ en = s + 1 := by
  rcases h with h | h | h | h | h | h | h
  · exact ⟨fun _ => h.2, fun _ => h.1⟩
  · exact ⟨fun z => absurd (h.1.symm.trans z) (by decide), fun z => by have := h.2.1; omega⟩
  · exact ⟨fun z => absurd (h.1.symm.trans z) (by decide), fun z => by have := h.2.1; omega⟩
  · exact ⟨fun z => absurd (h.1.symm.trans z) (by decide), fun z => by have := h.2.1; omega⟩
  · exact ⟨fun z => absurd (h.1.symm.trans z) (by decide), fun z => by have := h.2.1; omega⟩
  · exact ⟨fun z => absurd (h.1.symm.trans z) (by decide), fun z => by have := h.2.1; omega⟩
  · exact ⟨fun z => absurd (h.1.symm.trans z) (by decide), fun z => absurd z h.2.1⟩
theorem cMo_w_set (hX : X.length = 13) (h : qLx f L N K S V E G) (hn : n ≤ N) (hm : mtk mem f L S V E G n) (k1 : K n = 6 → n < N → P (.inl (some (.int 1)), hpo X mem sw o e)) (k0 : ¬ K n = 6 → P (.inl (some (.int 0)), hpo X mem sw o e)) : QW d mMo_isWord 0 (qen 5 [.ref 193, .int 3, .int 115, .int 101, .int 116]) [] (hpo X mem sw o e) P := by
  rcases lx_word h hn with ⟨hg, hk, hlt, _, _⟩ | hno
  · refine cMo_isWord (q := 3) hX h hn hm (by decide) (fun _ _ y1 y2 y3 y4 => k1 ((wk_set hk).mpr ⟨y1, wrd3.mpr ⟨y2, y3, y4.resolve_left (by decide)⟩⟩) hlt) (fun y => k0 (fun z => by
      have hw := (wk_set hk).mp z
      have h3 := wrd3.mp hw.2
      exact y ⟨hg, hw.1, h3.1, h3.2.1, Or.inr h3.2.2⟩))
  · exact cMo_isWord (q := 3) hX h hn hm (by decide) (fun y _ _ _ _ _ => absurd y hno.1) (fun _ => k0 hno.2.2.1)
theorem cMo_w_out (hX : X.length = 13) (h : qLx f L N K S V E G) (hn : n ≤ N) (hm : mtk mem f L S V E G n) (k1 : K n = 7 → n < N → P (.inl (some (.int 1)), hpo X mem sw o e)) (k0 : ¬ K n = 7 → P (.inl (some (.int 0)), hpo X mem sw o e)) : QW d mMo_isWord 0 (qen 5 [.ref 193, .int 3, .int 111, .int 117, .int 116]) [] (hpo X mem sw o e) P := by
  rcases lx_word h hn with ⟨hg, hk, hlt, _, _⟩ | hno
  · refine cMo_isWord (q := 3) hX h hn hm (by decide) (fun _ _ y1 y2 y3 y4 => k1 ((wk_out hk).mpr ⟨y1, wrd3.mpr ⟨y2, y3, y4.resolve_left (by decide)⟩⟩) hlt) (fun y => k0 (fun z => by
      have hw := (wk_out hk).mp z
      have h3 := wrd3.mp hw.2
      exact y ⟨hg, hw.1, h3.1, h3.2.1, Or.inr h3.2.2⟩))
  · exact cMo_isWord (q := 3) hX h hn hm (by decide) (fun y _ _ _ _ _ => absurd y hno.1) (fun _ => k0 hno.2.2.2.1)
theorem cMo_w_and (hX : X.length = 13) (h : qLx f L N K S V E G) (hn : n ≤ N) (hm : mtk mem f L S V E G n) (k1 : K n = 10 → n < N → P (.inl (some (.int 1)), hpo X mem sw o e)) (k0 : ¬ K n = 10 → P (.inl (some (.int 0)), hpo X mem sw o e)) : QW d mMo_isWord 0 (qen 5 [.ref 193, .int 3, .int 97, .int 110, .int 100]) [] (hpo X mem sw o e) P := by
  rcases lx_word h hn with ⟨hg, hk, hlt, _, _⟩ | hno
  · refine cMo_isWord (q := 3) hX h hn hm (by decide) (fun _ _ y1 y2 y3 y4 => k1 ((wk_and hk).mpr ⟨y1, wrd3.mpr ⟨y2, y3, y4.resolve_left (by decide)⟩⟩) hlt) (fun y => k0 (fun z => by
      have hw := (wk_and hk).mp z
      have h3 := wrd3.mp hw.2
      exact y ⟨hg, hw.1, h3.1, h3.2.1, Or.inr h3.2.2⟩))
  · exact cMo_isWord (q := 3) hX h hn hm (by decide) (fun y _ _ _ _ _ => absurd y hno.1) (fun _ => k0 hno.2.2.2.2.2.2)
theorem cMo_w_of (hX : X.length = 13) (h : qLx f L N K S V E G) (hn : n ≤ N) (hm : mtk mem f L S V E G n) (k1 : K n = 8 → n < N → P (.inl (some (.int 1)), hpo X mem sw o e)) (k0 : ¬ K n = 8 → P (.inl (some (.int 0)), hpo X mem sw o e)) : QW d mMo_isWord 0 (qen 5 [.ref 193, .int 2, .int 111, .int 102, .int 120]) [] (hpo X mem sw o e) P := by
  rcases lx_word h hn with ⟨hg, hk, hlt, _, _⟩ | hno
  · refine cMo_isWord (q := 2) hX h hn hm (by decide) (fun _ _ y1 y2 y3 y4 => k1 ((wk_of hk).mpr ⟨y1, wrd2.mpr ⟨y2, y3⟩⟩) hlt) (fun y => k0 (fun z => by
      have hw := (wk_of hk).mp z
      have h3 := wrd2.mp hw.2
      exact y ⟨hg, hw.1, h3.1, h3.2, Or.inl rfl⟩))
  · exact cMo_isWord (q := 2) hX h hn hm (by decide) (fun y _ _ _ _ _ => absurd y hno.1) (fun _ => k0 hno.2.2.2.2.1)
theorem cMo_w_where (hX : X.length = 13) (h : qLx f L N K S V E G) (hn : n ≤ N) (hm : mtk mem f L S V E G n) (k1 : K n = 9 → n < N → P (.inl (some (.int 1)), hpo X mem sw o e)) (k0 : ¬ K n = 9 → P (.inl (some (.int 0)), hpo X mem sw o e)) : QW d mMo_isWhere 0 (qen 1 [.ref 193]) [] (hpo X mem sw o e) P := by
  obtain ⟨h1, h2, h3, h4, h5, h6⟩ := hm
  have hL := h.1
  have e1 : mem 193 10 + 1 = qi (S n + 1) := by rw [h3, qi_1]
  have e2 : mem 193 10 + 2 = qi (S n + 2) := by rw [h3]; exact qi_add _ 2
  have e3 : mem 193 10 + 3 = qi (S n + 3) := by rw [h3]; exact qi_add _ 3
  have e4 : mem 193 10 + 4 = qi (S n + 4) := by rw [h3]; exact qi_add _ 4
  rcases lx_word h hn with ⟨hg, hk, hlt, _, hr⟩ | hno
  · have hr1 := hr.1
    have hr2 := hr.2.1
    have hw := (wk_where hk)
    have hd : (mem 193 11 - mem 193 10 = 5) ↔ E n = S n + 5 := by
      rw [h4, h3, qi_sub (by omega)]
      constructor
      · intro z
        have := qi_inj (b := 5) (by omega) (by omega) z
        omega
      · intro z
        rw [show E n - S n = 5 by omega]
        rfl
    have no : ¬ wrd f (S n) [119, 104, 101, 114, 101] → P (.inl (some (.int 0)), hpo X mem sw o e) := fun y => k0 (fun z => y (hw.mp z).2)
    refine bMo_isWhere_0 hX (fun z => absurd (h5.trans hg) z) (fun _ z => k0 (fun y => z (hd.mpr (hw.mp y).1))) (fun _ z => ?_) (fun _ z z1 => ?_) (fun _ z z1 => ?_) (fun _ z z1 z2 => ?_) (fun _ z z1 z2 => ?_) (fun _ z z1 z2 z3 => ?_) (fun _ z z1 z2 z3 => ?_) (fun _ z z1 z2 z3 z4 => ?_) (fun _ z z1 z2 z3 z4 => ?_) (fun _ z z1 z2 z3 z4 z5 => ?_) (fun _ z z1 z2 z3 z4 z5 => ?_)
    all_goals have he := hd.mp z
    · rw [h3]; exact qi_inx (by omega) (by omega)
    · rw [h3, qi_N (by omega), h2 _ (by omega)] at z1
      exact no (fun y => z1 (wrd5.mp y).1)
    · rw [e1]; exact qi_inx (by omega) (by omega)
    · rw [e1, qi_N (by omega), h2 _ (by omega)] at z2
      exact no (fun y => z2 (wrd5.mp y).2.1)
    · rw [e2]; exact qi_inx (by omega) (by omega)
    · rw [e2, qi_N (by omega), h2 _ (by omega)] at z3
      exact no (fun y => z3 (wrd5.mp y).2.2.1)
    · rw [e3]; exact qi_inx (by omega) (by omega)
    · rw [e3, qi_N (by omega), h2 _ (by omega)] at z4
      exact no (fun y => z4 (wrd5.mp y).2.2.2.1)
    · rw [e4]; exact qi_inx (by omega) (by omega)
    · rw [e4, qi_N (by omega), h2 _ (by omega)] at z5
      exact no (fun y => z5 (wrd5.mp y).2.2.2.2)
    · rw [h3, qi_N (by omega), h2 _ (by omega)] at z1
      rw [e1, qi_N (by omega), h2 _ (by omega)] at z2
      rw [e2, qi_N (by omega), h2 _ (by omega)] at z3
      rw [e3, qi_N (by omega), h2 _ (by omega)] at z4
      rw [e4, qi_N (by omega), h2 _ (by omega)] at z5
      exact k1 (hw.mpr ⟨he, wrd5.mpr ⟨z1, z2, z3, z4, z5⟩⟩) hlt
  · have : ¬ mem 193 9 = 1 := by rw [h5]; exact hno.1
    exact bMo_isWhere_0 hX (fun _ => k0 hno.2.2.2.2.2.1) (fun z => absurd z this) (fun z => absurd z this) (fun z => absurd z this) (fun z => absurd z this) (fun z => absurd z this) (fun z => absurd z this) (fun z => absurd z this) (fun z => absurd z this) (fun z => absurd z this) (fun z => absurd z this) (fun z => absurd z this) (fun z => absurd z this)
/-- at a number the reference's amount is small -/
theorem nmb_b {s : Nat} : ∀ i, (∀ j, j < i → ¬ f (s + j) < 48 ∧ ¬ 57 < f (s + j)) → i ≤ 3 → ∃ b : Nat, nmb f s i = qi b ∧ b < 10 ^ i
  | 0, _, _ => ⟨0, rfl, by omega⟩
  | i + 1, h, hi => by
    obtain ⟨b, hb, hl⟩ := nmb_b i (fun j hj => h j (by omega)) (by omega)
    have hh := h i (by omega)
    have h3 : ¬ f (s + i) < 0 := fun z => hh.1 (Int32.lt_trans z (by decide))
    obtain ⟨c, hc, e⟩ := qi_of h3
    rw [e] at hh
    have c1 : 48 ≤ c := by
      have := mt (qi_lt (a := c) (b := 48) hc (by omega)).mpr hh.1
      omega
    have c2 : c ≤ 57 := by
      have := mt (qi_lt (a := 57) (b := c) (by omega) hc).mpr hh.2
      omega
    refine ⟨b * 10 + (c - 48), ?_, ?_⟩
    · rw [nmb, hb, e, show (10 : Int32) = qi 10 from rfl, show (48 : Int32) = qi 48 from rfl, qi_mul, qi_sub c1, qi_add]
    · rw [Nat.pow_succ]
      omega
theorem lx_amt (h : qLx f L N K S V E G) (hn : n ≤ N) (hk : K n = 5) : n < N ∧ ∃ b : Nat, V n = qi b ∧ b < 1000 := by
  rcases lx_tk h hn with ⟨_, h1, h2⟩ | ⟨h0, _, ht⟩
  · rw [h1] at hk; exact absurd hk (by decide)
  · rcases tk_k ht with ⟨hg, hw, _⟩ | ⟨hg, _, hv, hle, hr⟩ | ⟨hg, hk'⟩ | ⟨hg, hk', _⟩ | ⟨hg, hi, hk'⟩
    · exact absurd hk (wk_b hw).2.1
    · refine ⟨h0, ?_⟩
      obtain ⟨b, hb, hl⟩ := nmb_b (f := f) (s := S n) (E n - S n) (fun j hj => hr.2.2.1 _ (by omega) (by omega)) (by omega)
      refine ⟨b, by rw [hv, hb], Nat.lt_of_lt_of_le hl (Nat.pow_le_pow_right (by omega) (by omega : E n - S n ≤ 3))⟩
    · rw [hk'] at hk; exact absurd hk (by decide)
    · rw [hk'] at hk; exact absurd hk (by decide)
    · rw [hk] at hi; exact absurd (by decide) (isg_b hi)
theorem lx_nm (h : qLx f L N K S V E G) (hn : n ≤ N) (hk : K n = 3) : n < N ∧ G n = 1 ∧ E n = S n + 1 ∧ V n = f (S n) ∧ ∃ c : Nat, V n = qi c ∧ 97 ≤ c ∧ c ≤ 122 := by
  rcases lx_word h hn with ⟨hg, hw, h0, hv, hr⟩ | hno
  · refine ⟨h0, hg, (wk_name hw).mp hk, hv, ?_⟩
    have hh := hr.2.2.1 (S n) (Nat.le_refl _) hr.1
    have h3 : ¬ f (S n) < 0 := fun z => hh.1 (Int32.lt_trans z (by decide))
    obtain ⟨c, hc, e⟩ := qi_of h3
    rw [e] at hh
    refine ⟨c, by rw [hv, e], ?_, ?_⟩
    · have := mt (qi_lt (a := c) (b := 97) hc (by omega)).mpr hh.1
      omega
    · have := mt (qi_lt (a := 122) (b := c) (by omega) hc).mpr hh.2
      omega
  · exact absurd hk hno.2.1
/-- the reference's value -/
theorem cMo_value (hX : X.length = 13) (h : qLx f L N K S V E G) (hn : n ≤ N) (hm : mtk mem f L S V E G n)
    (k1 : ∀ m' v n', pv K V n = (some v, n') → n' ≤ N → (∀ j q, ¬ (j = 193 ∧ 9 ≤ q ∧ q < 13) → m' j q = mem j q) → mtk m' f L S V E G n' → P (.inl (some (.int (enc v))), hpo X m' sw o e))
    (k0 : ∀ m' n', pv K V n = (none, n') → n' ≤ N → (∀ j q, ¬ (j = 193 ∧ 9 ≤ q ∧ q < 13) → m' j q = mem j q) → mtk m' f L S V E G n' → P (.inl (some (.int (-1))), hpo X m' sw o e)) : QW (d + 1 + 1 + 1) mMo_value 0 (qen 3 [.ref 193]) [] (hpo X mem sw o e) P := by
  have hm' := hm
  obtain ⟨h1, h2, h3, h4, h5, h6⟩ := hm'
  have hL := h.1
  -- not a name
  have rest : ¬ K n = 3 → QW (d + 1 + 1 + 1) mMo_value 78 lMo_value_78 [] (hpo X mem sw o e) P := by
    intro hk3
    refine bMo_value_78 hX (cMo_passes hX h hn hm (by simp [isg]) (fun x y m1 a1 a2 => ?_) (fun x => ?_))
    · have a2' := a2
      obtain ⟨g1, g2, g3, g4, g5, g6⟩ := a2'
      refine qcl_i (bMo_value_84 hX (fun z w => absurd w (by decide)) (fun z _ => ?_) (fun z => k0 m1 (n + 1) ?_ (by omega) a1 a2))
      · have hk5 : K (n + 1) = 5 := (lx_num h (by omega)).mpr (g5.symm.trans z)
        have hv := g6 (g5.symm.trans z)
        rw [hv]
        refine bMo_value_114 hX (cMo_nextT hX h (lx_amt h (by omega) hk5).1 a2 (fun m2 b1 b2 => qcl_v (bMo_value_120 hX ?_)))
        have := k1 m2 (0, -(V (n + 1))) (n + 2) (by simp [pv, x, hk5]) (by have := (lx_amt h (n := n + 1) (by omega) hk5).1; omega) (fun j q a => by rw [b1 j q a, a1 j q a]) b2
        rw [enc, if_pos rfl] at this
        exact this
      · have hk5 : ¬ K (n + 1) = 5 := fun y' => z (g5.trans ((lx_num h (by omega)).mp y'))
        simp [pv, x, hk5]
    · refine qcl_i (bMo_value_84 hX (fun z _ => ?_) (fun z w => absurd rfl w) (fun z => k0 mem n ?_ hn (fun j q a => rfl) hm))
      · have hk5 : K n = 5 := (lx_num h hn).mpr (h5.symm.trans z)
        have hv := h6 (h5.symm.trans z)
        rw [hv]
        refine bMo_value_114 hX (cMo_nextT hX h (lx_amt h hn hk5).1 hm (fun m2 b1 b2 => qcl_v (bMo_value_120 hX ?_)))
        have := k1 m2 (0, V n) (n + 1) (by simp [pv, hk5]) (by have := (lx_amt h hn hk5).1; omega) b1 b2
        rw [enc, if_pos rfl] at this
        exact this
      · have hk5 : ¬ K n = 5 := fun y' => z (h5.trans ((lx_num h hn).mp y'))
        simp [pv, x, hk5, hk3]
  have hnm : (mem 193 9 = 1 ∧ mem 193 11 - mem 193 10 = 1) ↔ K n = 3 := by
    rw [h5]
    rcases lx_word h hn with ⟨hg, hw, h0, hv, hr⟩ | hno
    · have hr1 := hr.1
      have hr2 := hr.2.1
      rw [wk_name hw, h4, h3, qi_sub (by omega)]
      constructor
      · intro z
        have := qi_inj (b := 1) (by omega) (by omega) z.2
        omega
      · intro z
        exact ⟨hg, by rw [show E n - S n = 1 by omega]; rfl⟩
    · exact ⟨fun z => absurd z.1 hno.1, fun z => absurd z hno.2.1⟩
  refine bMo_value_0 hX (fun z => rest (fun y => z (hnm.mpr y).1)) (fun _ z => rest (fun y => z (hnm.mpr y).2)) (fun z1 z2 => ?_) (fun z1 z2 => ?_)
  · have hk3 := hnm.mp ⟨z1, z2⟩
    rw [h3]
    have := (h.2.2.2.2.2.2.2 n (lx_nm h hn hk3).1).1
    exact qi_inx (by omega) (by omega)
  · have hk3 := hnm.mp ⟨z1, z2⟩
    obtain ⟨hlt, hg, hE, hV, c, hc, c1, c2⟩ := lx_nm h hn hk3
    have hS := (h.2.2.2.2.2.2.2 n hlt).1
    have hn45 : ¬ K n = 45 := by rw [hk3]; decide
    have hn5 : ¬ K n = 5 := by rw [hk3]; decide
    rw [h3, qi_N (by omega), h2 _ hS, ← hV]
    refine cMo_nextT hX h hlt hm (fun m1 a1 a2 => qcl_v (bMo_value_38 hX (cMo_passes hX h (by omega) a2 (by simp [isg]) (fun x y m2 b1 b2 => ?_) (fun x => ?_))))
    · have b2' := b2
      obtain ⟨g1, g2, g3, g4, g5, g6⟩ := b2'
      refine qcl_i (bMo_value_44 hX (fun z => absurd z (by decide)) (fun _ z => ?_) (fun _ z => k0 m2 (n + 2) ?_ (by omega) (fun j q a => by rw [b1 j q a, a1 j q a]) b2))
      · have hk5 : K (n + 2) = 5 := (lx_num h (by omega)).mpr (g5.symm.trans z)
        have hv := g6 (g5.symm.trans z)
        rw [hv]
        refine cMo_nextT hX h (lx_amt h (by omega) hk5).1 b2 (fun m3 c1' c2' => qcl_v (bMo_value_76 hX ?_))
        have := k1 m3 (V n, V (n + 2)) (n + 3) (by simp [pv, hk3, x, hk5]) (by have := (lx_amt h (n := n + 2) (by omega) hk5).1; omega) (fun j q a => by rw [c1' j q a, b1 j q a, a1 j q a]) c2'
        rw [enc, if_neg (by intro y'; rw [hc] at y'; have := qi_inj (b := 0) (by omega) (by omega) y'; omega)] at this
        exact this
      · have hk5 : ¬ K (n + 2) = 5 := fun y' => z (g5.trans ((lx_num h (by omega)).mp y'))
        simp [pv, hk3, x, hk5]
    · refine qcl_i (bMo_value_44 hX (fun _ => k0 m1 (n + 1) ?_ (by omega) a1 a2) (fun z => absurd rfl z) (fun z => absurd rfl z))
      simp [pv, hk3, x]
end WKS
