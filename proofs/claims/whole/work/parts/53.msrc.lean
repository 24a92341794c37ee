def msr (m : Nat → Nat → Int32) (mb : Nat) (l : List qV) : Prop := m 204 mb = qi l.length ∧ ∀ k v, l[k]? = some v → m 205 (4 * mb + k) = v.1 ∧ m 206 (4 * mb + k) = v.2 - 97
section MSR
variable {d : Nat} {P : qE → Prop} {X : qH} {sw : Bool} {o : Int64} {e : List Nat} {N : Nat} {K V G : Nat → Int32} {S E : Nat → Nat} {f : Nat → Int32} {L : Nat} {mb : Nat}
theorem msr_mono {m m' : Nat → Nat → Int32} {l : List qV} (h : msr m mb l) (e1 : m' 204 mb = m 204 mb) (e2 : ∀ q, 4 * mb ≤ q → q < 4 * mb + l.length → m' 205 q = m 205 q ∧ m' 206 q = m 206 q) : msr m' mb l := by
  refine ⟨by rw [e1]; exact h.1, fun k v hk => ?_⟩
  have hl := (List.getElem?_eq_some_iff.mp hk).1
  rw [(e2 _ (by omega) (by omega)).1, (e2 _ (by omega) (by omega)).2]
  exact h.2 k v hk
theorem s97 {a b : Int32} : a - 97 = b - 97 ↔ a = b := by
  constructor
  · intro h
    have := congrArg (· + 97) h
    simpa using this
  · intro h; rw [h]
theorem lx_is1 {n : Nat} {m : Nat → Nat → Int32} (h : qLx f L N K S V E G) (hn : n ≤ N) (hm : mtk m f L S V E G n) : (m 193 9 = 1 ∧ m 193 11 - m 193 10 = 1) ↔ K n = 3 := by
  obtain ⟨h1, h2, h3, h4, h5, h6⟩ := hm
  have hL := h.1
  rw [h5]
  rcases lx_word h hn with ⟨hg, hw, h0, hv, hr⟩ | hno
  · have hr1 := hr.1
    have hr2 := hr.2.1
    rw [wk_name hw, h4, h3, qi_sub (by omega)]
    constructor
    · intro z
      have := qi_inj (b := 1) (by omega) (by omega) z.2
      omega
    · intro z
      exact ⟨hg, by rw [show E n - S n = 1 by omega]; rfl⟩
  · exact ⟨fun z => absurd z.1 hno.1, fun z => absurd z hno.2.1⟩
theorem lx_capv {n : Nat} (h : qLx f L N K S V E G) (hn : n ≤ N) (hk : K n = 4) : ∃ c : Nat, V n = qi c ∧ c < 26 := by
  obtain ⟨hv, h0, ha, hb⟩ := (lx_cap h hn).2 hk
  have h3 : ¬ f (S n) < 0 := fun z => ha (Int32.lt_trans z (by decide))
  obtain ⟨c, hc, e⟩ := qi_of h3
  rw [e] at ha hb
  have c1 : 65 ≤ c := by
    have := mt (qi_lt (a := c) (b := 65) hc (by omega)).mpr ha
    omega
  have c2 : c ≤ 90 := by
    have := mt (qi_lt (a := 90) (b := c) (by omega) hc).mpr hb
    omega
  refine ⟨c - 65, ?_, by omega⟩
  rw [hv, e]
  exact qi_sub (b := 65) c1
theorem cMo_readSource {cnt n : Nat} {mem : Nat → Nat → Int32} {acc : List qV} (hX : X.length = 13) (h : qLx f L N K S V E G) (hmb : mb < 15) (hn : n ≤ N) (hm : mtk mem f L S V E G n) (hacc : acc.length < 4) (hs : msr mem mb acc) (hc : mem 193 1 = qi cnt) (hc4 : cnt ≤ 4)
    (k1 : (K n = 4 ∧ ¬ V n < 0 ∧ ¬ qi cnt ≤ V n) → (K (n + 1) = 3 ∧ ∀ v ∈ acc, ¬ v.2 = V (n + 1)) → n + 2 ≤ N → ∀ m', (∀ j q, ¬ (j = 193 ∧ 9 ≤ q ∧ q < 13) → ¬ (j = 204 ∧ q = mb) → ¬ (205 ≤ j ∧ j < 207 ∧ q = 4 * mb + acc.length) → m' j q = mem j q) → mtk m' f L S V E G (n + 2) → msr m' mb (acc ++ [(V n, V (n + 1))]) → P (.inl (some (.int 1)), hpo X m' sw o e))
    (kA : ¬ (K n = 4 ∧ ¬ V n < 0 ∧ ¬ qi cnt ≤ V n) → P (.inl (some (.int 0)), hpo X mem sw o e))
    (kB : (K n = 4 ∧ ¬ V n < 0 ∧ ¬ qi cnt ≤ V n) → ¬ (K (n + 1) = 3 ∧ ∀ v ∈ acc, ¬ v.2 = V (n + 1)) → n + 1 ≤ N → ∀ m', (∀ j q, ¬ (j = 193 ∧ 9 ≤ q ∧ q < 13) → m' j q = mem j q) → mtk m' f L S V E G (n + 1) → P (.inl (some (.int 0)), hpo X m' sw o e)) :
    QW (d + 1 + 1) mMo_readSource 0 (qen 5 [.ref 193, .int (qi mb)]) [] (hpo X mem sw o e) P := by
  have hm' := hm
  obtain ⟨h1, h2, h3, h4, h5, h6⟩ := hm'
  have hL := h.1
  have hcap := lx_cap h hn
  have hmi : inx (qi mb) 15 := qi_inx hmb (by omega)
  have eN : Int32.toNatClampNeg (qi mb) = mb := qi_N (by omega)
  refine bMo_readSource_0 hX (fun z => ?_) (fun z => ?_) (fun z => ?_)
  · rw [h5] at z
    refine bMo_readSource_27 hX (fun y => ?_) (fun _ => kA (fun y => z (hcap.1.mp y.1)))
    exact absurd y (Int32.lt_irrefl)
  · rw [h5] at z
    have hk := hcap.1.mpr z
    rw [h3]
    have := (h.2.2.2.2.2.2.2 n (hcap.2 hk).2.1).1
    exact qi_inx (by omega) (by omega)
  · rw [h5] at z
    have hk := hcap.1.mpr z
    have hlt := (hcap.2 hk).2.1
    have hS := (h.2.2.2.2.2.2.2 n hlt).1
    rw [h3, qi_N (by omega), h2 _ hS, ← (hcap.2 hk).1]
    obtain ⟨t, ht, ht26⟩ := lx_capv h hn hk
    have hV0 : ¬ V n < 0 := by rw [ht]; exact qi_p (by omega)
    refine bMo_readSource_27 hX (fun y => ?_) (fun y => kA (fun y' => ?_))
    · rw [hc] at y
      have hcond : K n = 4 ∧ ¬ V n < 0 ∧ ¬ qi cnt ≤ V n := ⟨hk, hV0, fun y' => by rw [ht] at y y'; have := (qi_lt (by omega) (by omega)).mp y; have := (qi_le (by omega) (by omega)).mp y'; omega⟩
      refine cMo_nextT hX h hlt hm (fun m1 a1 a2 => qcl_v ?_)
      have a2' := a2
      obtain ⟨g1, g2, g3, g4, g5, g6⟩ := a2'
      have his := lx_is1 h (by omega) a2
      have hs1 : msr m1 mb acc := msr_mono hs (a1 _ _ (by omega)) (fun q _ _ => ⟨a1 _ _ (by omega), a1 _ _ (by omega)⟩)
      -- the loop over the names
      have lp : ∀ (r k : Nat) (a3 : Int32), k + r = acc.length → (a3 = 0 ∨ a3 = 1) → (a3 = 1 ↔ (K (n + 1) = 3 ∧ ∀ (j : Nat) (w : qV), j < k → acc[j]? = some w → ¬ w.2 = V (n + 1))) → QW (d + 1 + 1) mMo_readSource 72 (lMo_readSource_72 (qi mb) (V n) a3 (qi k)) [] (hpo X m1 sw o e) P := by
        intro r
        induction r with
        | zero =>
          intro k a3 hkr ha3 hiff
          obtain rfl : k = acc.length := by omega
          have hle : m1 204 (Int32.toNatClampNeg (qi mb)) ≤ qi acc.length := by rw [eN, hs1.1]; exact Int32.le_refl _
          have hall : (∀ (j : Nat) (w : qV), j < acc.length → acc[j]? = some w → ¬ w.2 = V (n + 1)) ↔ ∀ v ∈ acc, ¬ v.2 = V (n + 1) := by
            constructor
            · intro hh v hv
              obtain ⟨j, hj, ej⟩ := List.getElem_of_mem hv
              exact hh j v hj (by rw [List.getElem?_eq_getElem hj, ej])
            · intro hh j w _ hw
              exact hh w (List.mem_of_getElem? hw)
          rw [hall] at hiff
          have e4 : (4 : Int32) * qi mb + qi acc.length = qi (4 * mb + acc.length) := by rw [q4, qi_add]
          have hin : inx (qi (4 * mb + acc.length)) 60 := qi_inx (by omega) (by omega)
          have one : ¬ a3 = 0 → a3 = 1 := fun z => ha3.resolve_left z
          refine bMo_readSource_72 hX hmi (fun _ _ => hmi) (fun _ _ => by rw [eN, hs1.1, e4]; exact hin) (fun _ _ => hmi) (fun _ z => ?_) (fun _ _ => ?_) (fun _ _ => hmi) (fun _ _ => hmi) (fun _ z => ?_) (fun _ z => ?_) (fun z => absurd hle z) (fun z => absurd hle z) (fun z => absurd hle z) (fun z => absurd hle z) (fun z => absurd hle z)
          · have hk3 := (hiff.mp (one z)).1
            have := (h.2.2.2.2.2.2.2 (n + 1) (lx_nm h (by omega) hk3).1).1
            rw [mup_ce (by omega), g3]; exact qi_inx (by omega) (by omega)
          · rw [eN, hs1.1, e4, qi_N (by omega), mup_ce (by omega), hs1.1, e4]; exact hin
          · have hk3 := (hiff.mp (one z)).1
            obtain ⟨hlt1, _, _, hVn, _⟩ := lx_nm h (by omega) hk3
            have hS1 := (h.2.2.2.2.2.2.2 (n + 1) hlt1).1
            rw [eN, hs1.1, e4, qi_N (a := 4 * mb + acc.length) (by omega)]
            rw [show mup m1 205 (4 * mb + acc.length) (V n) 204 mb = qi acc.length by (repeat (rw [mup_q]; first | rw [if_pos (by omega)] | rw [if_neg (by omega)])); exact hs1.1, e4, qi_N (a := 4 * mb + acc.length) (by omega)]
            rw [show mup m1 205 (4 * mb + acc.length) (V n) 193 10 = qi (S (n + 1)) by (repeat (rw [mup_q]; first | rw [if_pos (by omega)] | rw [if_neg (by omega)])); exact g3, qi_N (a := S (n + 1)) (by omega)]
            rw [show mup m1 205 (4 * mb + acc.length) (V n) 198 (S (n + 1)) = V (n + 1) by (repeat (rw [mup_q]; first | rw [if_pos (by omega)] | rw [if_neg (by omega)])); rw [g2 _ hS1, hVn]]
            rw [show mup (mup m1 205 (4 * mb + acc.length) (V n)) 206 (4 * mb + acc.length) (V (n + 1) - 97) 204 mb = qi acc.length by (repeat (rw [mup_q]; first | rw [if_pos (by omega)] | rw [if_neg (by omega)])); exact hs1.1, qi_1]
            have hfr : ∀ j q, ¬ (j = 204 ∧ q = mb) → ¬ (205 ≤ j ∧ j < 207 ∧ q = 4 * mb + acc.length) → mup (mup (mup m1 205 (4 * mb + acc.length) (V n)) 206 (4 * mb + acc.length) (V (n + 1) - 97)) 204 mb (qi (acc.length + 1)) j q = m1 j q := fun j q a b => by (repeat (rw [mup_q]; first | rw [if_pos (by omega)] | rw [if_neg (by omega)]))
            have x1 : mup (mup (mup m1 205 (4 * mb + acc.length) (V n)) 206 (4 * mb + acc.length) (V (n + 1) - 97)) 204 mb (qi (acc.length + 1)) 204 mb = qi (acc.length + 1) := by (repeat (rw [mup_q]; first | rw [if_pos (by omega)] | rw [if_neg (by omega)]))
            have x2 : mup (mup (mup m1 205 (4 * mb + acc.length) (V n)) 206 (4 * mb + acc.length) (V (n + 1) - 97)) 204 mb (qi (acc.length + 1)) 205 (4 * mb + acc.length) = V n := by (repeat (rw [mup_q]; first | rw [if_pos (by omega)] | rw [if_neg (by omega)]))
            have x3 : mup (mup (mup m1 205 (4 * mb + acc.length) (V n)) 206 (4 * mb + acc.length) (V (n + 1) - 97)) 204 mb (qi (acc.length + 1)) 206 (4 * mb + acc.length) = V (n + 1) - 97 := by (repeat (rw [mup_q]; first | rw [if_pos (by omega)] | rw [if_neg (by omega)]))
            generalize mup (mup (mup m1 205 (4 * mb + acc.length) (V n)) 206 (4 * mb + acc.length) (V (n + 1) - 97)) 204 mb (qi (acc.length + 1)) = m2 at hfr x1 x2 x3 ⊢
            have hm2 : mtk m2 f L S V E G (n + 1) := mtk_mono a2 (fun q a b => hfr _ _ (by omega) (by omega)) (fun q => hfr _ _ (by omega) (by omega))
            refine cMo_nextT hX h hlt1 hm2 (fun m3 b1 b2 => qcl_v (bMo_readSource_188 hX (k1 hcond (hiff.mp (one z)) (by omega) m3 (fun j q a b c => by rw [b1 j q a, hfr j q b c, a1 j q a]) b2 ⟨?_, fun k v hk' => ?_⟩)))
            · rw [b1 _ _ (by omega), x1]; simp
            · by_cases hkk : k < acc.length
              · rw [List.getElem?_append_left hkk] at hk'
                have := hs1.2 k v hk'
                rw [b1 _ _ (by omega), b1 _ _ (by omega), hfr _ _ (by omega) (by omega), hfr _ _ (by omega) (by omega)]
                exact this
              · obtain rfl : k = acc.length := by
                  have := List.getElem?_eq_some_iff.mp hk'
                  obtain ⟨h', _⟩ := this
                  simp at h'
                  omega
                simp at hk'
                subst hk'
                rw [b1 _ _ (by omega), b1 _ _ (by omega)]
                exact ⟨x2, x3⟩
          · exact kB hcond (fun y' => absurd (hiff.mpr y') (by rw [z]; decide)) (by omega) m1 a1 a2
        | succ r ih =>
          intro k a3 hkr ha3 hiff
          have hle : ¬ m1 204 (Int32.toNatClampNeg (qi mb)) ≤ qi k := by rw [eN, hs1.1, qi_le (by omega) (by omega)]; omega
          have e4 : (4 : Int32) * qi mb + qi k = qi (4 * mb + k) := by rw [q4, qi_add]
          have hin : inx (qi (4 * mb + k)) 60 := qi_inx (by omega) (by omega)
          have one : ¬ a3 = 0 → a3 = 1 := fun z => ha3.resolve_left z
          have hkl : k < acc.length := by omega
          have hgk : acc[k]? = some acc[k] := List.getElem?_eq_getElem hkl
          have stop : (¬ (K (n + 1) = 3 ∧ ∀ (j : Nat) (w : qV), j < k + 1 → acc[j]? = some w → ¬ w.2 = V (n + 1))) → QW (d + 1 + 1) mMo_readSource 117 (lMo_readSource_117 (qi mb) (V n) a3 (qi k)) [] (hpo X m1 sw o e) P := by
            intro hno
            refine bMo_readSource_117 hX (bMo_readSource_118 hX ?_)
            rw [qi_1]
            exact ih (k + 1) 0 (by omega) (Or.inl rfl) ⟨fun z => absurd z (by decide), fun z => absurd z hno⟩
          refine bMo_readSource_72 hX hmi (fun z => absurd z hle) (fun z => absurd z hle) (fun z => absurd z hle) (fun z => absurd z hle) (fun z => absurd z hle) (fun z => absurd z hle) (fun z => absurd z hle) (fun z => absurd z hle) (fun z => absurd z hle) (fun _ z => ?_) (fun _ z => ?_) (fun _ z => ?_) (fun _ z y => ?_) (fun _ z y => ?_)
          · exact stop (fun y' => by
              have := hiff.mpr ⟨y'.1, fun j w hj hw => y'.2 j w (by omega) hw⟩
              rw [z] at this
              exact absurd this (by decide))
          · rw [e4]; exact hin
          · have hk3 := (hiff.mp (one z)).1
            have := (h.2.2.2.2.2.2.2 (n + 1) (lx_nm h (by omega) hk3).1).1
            rw [g3]; exact qi_inx (by omega) (by omega)
          · have hk3 := (hiff.mp (one z)).1
            obtain ⟨hlt1, _, _, hVn, _⟩ := lx_nm h (by omega) hk3
            have hS1 := (h.2.2.2.2.2.2.2 (n + 1) hlt1).1
            rw [e4, qi_N (by omega), g3, qi_N (by omega), g2 _ hS1, ← hVn, (hs1.2 k _ hgk).2, s97] at y
            exact stop (fun y' => y'.2 k _ (by omega) hgk y)
          · have hk3 := (hiff.mp (one z)).1
            obtain ⟨hlt1, _, _, hVn, _⟩ := lx_nm h (by omega) hk3
            have hS1 := (h.2.2.2.2.2.2.2 (n + 1) hlt1).1
            rw [e4, qi_N (by omega), g3, qi_N (by omega), g2 _ hS1, ← hVn, (hs1.2 k _ hgk).2, s97] at y
            refine bMo_readSource_118 hX ?_
            rw [qi_1]
            refine ih (k + 1) 1 (by omega) (Or.inr rfl) ⟨fun _ => ⟨hk3, fun j w hj hw => ?_⟩, fun _ => rfl⟩
            rcases Nat.lt_or_eq_of_le (Nat.le_of_lt_succ hj) with h' | h'
            · exact (hiff.mp (one z)).2 j w h' hw
            · subst h'
              rw [hgk] at hw
              cases hw
              exact y
      refine bMo_readSource_42 hX (fun z' => ?_) (fun z1 z2 => ?_) (fun z1 z2 => ?_)
      · exact bMo_readSource_67 hX (bMo_readSource_68 hX (lp acc.length 0 0 (by omega) (Or.inl rfl) ⟨fun y' => absurd y' (by decide), fun y' => absurd (his.mpr y'.1).1 z'⟩))
      · exact bMo_readSource_67 hX (bMo_readSource_68 hX (lp acc.length 0 0 (by omega) (Or.inl rfl) ⟨fun y' => absurd y' (by decide), fun y' => absurd (his.mpr y'.1).2 z2⟩))
      · exact bMo_readSource_68 hX (lp acc.length 0 1 (by omega) (Or.inr rfl) ⟨fun _ => ⟨his.mp ⟨z1, z2⟩, fun j w hj => absurd hj (by omega)⟩, fun _ => rfl⟩)
    · rw [hc] at y
      rw [ht] at y y'
      have := mt (qi_lt (a := t) (b := cnt) (by omega) (by omega)).mpr y
      have := mt (qi_le (a := cnt) (b := t) (by omega) (by omega)).mpr y'.2.2
      omega
theorem moSrc {cnt : Nat} (hX : X.length = 13) (h : qLx f L N K S V E G) (hmb : mb < 15) (hc4 : cnt ≤ 4) : ∀ (g n : Nat) (acc : List qV) (mem : Nat → Nat → Int32), acc.length + (g + 1) = 4 → mtk mem f L S V E G n → n ≤ N → msr mem mb acc → mem 193 1 = qi cnt →
    (∀ m' l n', psr (qi cnt) K V (g + 1) n acc = (some l, n') → n' ≤ N → mtk m' f L S V E G n' → (∀ j q, ¬ (j = 193 ∧ 9 ≤ q ∧ q < 13) → ¬ (j = 204 ∧ q = mb) → ¬ (205 ≤ j ∧ j < 207 ∧ 4 * mb ≤ q ∧ q < 4 * mb + 4) → m' j q = mem j q) → msr m' mb l → P (.inl (some (.int 1)), hpo X m' sw o e)) →
    (∀ m' n', psr (qi cnt) K V (g + 1) n acc = (none, n') → n' ≤ N → mtk m' f L S V E G n' → (∀ j q, ¬ (j = 193 ∧ 9 ≤ q ∧ q < 13) → ¬ (j = 204 ∧ q = mb) → ¬ (205 ≤ j ∧ j < 207 ∧ 4 * mb ≤ q ∧ q < 4 * mb + 4) → m' j q = mem j q) → P (.inl (some (.int 0)), hpo X m' sw o e)) →
    QW (d + 1 + 1 + 1) mMo_readSources 9 (lMo_readSources_9 (qi mb) 1) [] (hpo X mem sw o e) P := by
  have hmi : inx (qi mb) 15 := qi_inx hmb (by omega)
  have eN : Int32.toNatClampNeg (qi mb) = mb := qi_N (by omega)
  intro g
  induction g with
  | zero =>
    intro n acc mem hl hm hn hs hc k1 k0
    refine bMo_readSources_9 hX (fun z => absurd z (by decide)) (fun _ => cMo_readSource hX h hmb hn hm (by omega) hs hc hc4 (fun x1 x2 hN m' a1 a2 a3 => ?_) (fun x1 => ?_) (fun x1 x2 hN m' a1 a2 => ?_))
    · have e4 : (4 : Int32) ≤ m' 204 (Int32.toNatClampNeg (qi mb)) := by rw [eN, a3.1]; exact (qi_le (a := 4) (by omega) (by simp; omega)).mpr (by simp; omega)
      refine qcl_i (bMo_readSources_18 hX (fun _ => hmi) (fun _ _ => bMo_readSources_46 hX (bMo_readSources_47 hX (bMo_readSources_9 hX (fun _ => ?_) (fun z => absurd rfl z)))) (fun _ z => absurd e4 z) (fun z => absurd z (by decide)))
      refine k1 m' (acc ++ [(V n, V (n + 1))]) (n + 2) ?_ hN a2 (fun j q a b c => a1 j q a b (by omega)) a3
      rw [psr, if_pos x1, if_pos x2, if_neg (by simp)]
    · refine qcl_i (bMo_readSources_18 hX (fun z => absurd rfl z) (fun z => absurd rfl z) (fun z => absurd rfl z) (fun _ => k0 mem n ?_ hn hm (fun j q _ _ _ => rfl)))
      rw [psr, if_neg x1]
    · refine qcl_i (bMo_readSources_18 hX (fun z => absurd rfl z) (fun z => absurd rfl z) (fun z => absurd rfl z) (fun _ => k0 m' (n + 1) ?_ hN a2 (fun j q a b c => a1 j q a)))
      rw [psr, if_pos x1, if_neg x2]
  | succ g ih =>
    intro n acc mem hl hm hn hs hc k1 k0
    refine bMo_readSources_9 hX (fun z => absurd z (by decide)) (fun _ => cMo_readSource hX h hmb hn hm (by omega) hs hc hc4 (fun x1 x2 hN m' a1 a2 a3 => ?_) (fun x1 => ?_) (fun x1 x2 hN m' a1 a2 => ?_))
    · have e4 : ¬ (4 : Int32) ≤ m' 204 (Int32.toNatClampNeg (qi mb)) := by
        rw [eN, a3.1]
        intro z
        have := (qi_le (a := 4) (by omega) (by simp; omega)).mp z
        simp at this
        omega
      refine qcl_i (bMo_readSources_18 hX (fun _ => hmi) (fun _ z => absurd z e4) (fun _ _ => cMo_passes hX h hN a2 (by simp [isg]) (fun x y m2 b1 b2 => ?_) (fun x => ?_)) (fun z => absurd z (by decide)))
      · refine qcl_i (bMo_readSources_39 hX (fun z => absurd z (by decide)) (fun _ => bMo_readSources_47 hX ?_))
        refine ih (n + 3) (acc ++ [(V n, V (n + 1))]) m2 (by simp; omega) b2 (by omega) (msr_mono a3 (b1 _ _ (by omega)) (fun q _ _ => ⟨b1 _ _ (by omega), b1 _ _ (by omega)⟩)) (by rw [b1 _ _ (by omega), a1 _ _ (by omega) (by omega) (by omega)]; exact hc) ?_ ?_
        · intro m3 l n3 g1 g2 g3 g4 g5
          refine k1 m3 l n3 ?_ g2 g3 (fun j q a b c => by rw [g4 j q a b c, b1 j q a, a1 j q a b (by omega)]) g5
          rw [psr, if_pos x1, if_pos x2, if_pos ⟨by omega, x⟩]; exact g1
        · intro m3 n3 g1 g2 g3 g4
          refine k0 m3 n3 ?_ g2 g3 (fun j q a b c => by rw [g4 j q a b c, b1 j q a, a1 j q a b (by omega)])
          rw [psr, if_pos x1, if_pos x2, if_pos ⟨by omega, x⟩]; exact g1
      · refine qcl_i (bMo_readSources_39 hX (fun _ => bMo_readSources_46 hX (bMo_readSources_47 hX (bMo_readSources_9 hX (fun _ => ?_) (fun z => absurd rfl z)))) (fun z => absurd rfl z))
        refine k1 m' (acc ++ [(V n, V (n + 1))]) (n + 2) ?_ hN a2 (fun j q a b c => a1 j q a b (by omega)) a3
        rw [psr, if_pos x1, if_pos x2, if_neg (fun z => x z.2)]
    · refine qcl_i (bMo_readSources_18 hX (fun z => absurd rfl z) (fun z => absurd rfl z) (fun z => absurd rfl z) (fun _ => k0 mem n ?_ hn hm (fun j q _ _ _ => rfl)))
      rw [psr, if_neg x1]
    · refine qcl_i (bMo_readSources_18 hX (fun z => absurd rfl z) (fun z => absurd rfl z) (fun z => absurd rfl z) (fun _ => k0 m' (n + 1) ?_ hN a2 (fun j q a b c => a1 j q a)))
      rw [psr, if_pos x1, if_neg x2]
end MSR
