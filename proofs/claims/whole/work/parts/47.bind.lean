/-- the value that stands in slot k of a block -/
def uv (b : qBk) (k : Nat) : Option qV := if k < 3 then b.2.1[k]? else (b.2.2.2[(k - 3) / 2]?).map (fun c => if (k - 3) % 2 = 0 then c.1 else c.2.2)
/-- s is the first source of that name -/
def fsn (ls : List qV) (nm : Int32) (s : Nat) (t : Int32) : Prop := ls[s]? = some (t, nm) ∧ ∀ (r : Nat) (w : qV), r < s → ls[r]? = some w → ¬ w.2 = nm
def bsl (ls : List qV) (col : Nat → Nat) (v : qV) (r : Int32) : Prop := (v.1 = 0 ∧ r = -1) ∨ (¬ v.1 = 0 ∧ ∃ s t c, r = qi s ∧ fsn ls v.1 s (qi t) ∧ t < 4 ∧ v.2 = qi c ∧ c < col t)
def bbd (ls : List qV) (col : Nat → Nat) (v : qV) : Prop := ¬ v.1 = 0 ∧ ((∀ (s : Nat) (w : qV), ls[s]? = some w → ¬ w.2 = v.1) ∨ ∃ s t, fsn ls v.1 s (qi t) ∧ t < 4 ∧ (v.2 < 0 ∨ qi (col t) ≤ v.2))
/-- all of a block's names are bound -/
def abd (col : Nat → Nat) (b : qBk) : Prop := ∀ k v, uv b k = some v → ∃ r, bsl b.2.2.1 col v r
theorem fsn_u {ls : List qV} {nm t t' : Int32} {s s' : Nat} (h : fsn ls nm s t) (h' : fsn ls nm s' t') : s' = s ∧ t' = t := by
  have : s' = s := by
    rcases Nat.lt_trichotomy s' s with hh | hh | hh
    · exact absurd rfl (h.2 s' _ hh h'.1)
    · exact hh
    · exact absurd rfl (h'.2 s _ hh h.1)
  subst this
  have := h'.1.symm.trans h.1
  simp at this
  exact ⟨rfl, this⟩
theorem bbd_no {ls : List qV} {col : Nat → Nat} {v : qV} (hc : ∀ t, t < 4 → col t ≤ 3) (h : bbd ls col v) : ¬ ∃ r, bsl ls col v r := by
  rintro ⟨r, hr⟩
  rcases hr with ⟨h0, _⟩ | ⟨h0, s, t, c, rfl, hf, ht, hv, hcc⟩
  · exact h.1 h0
  · rcases h.2 with h2 | ⟨s', t', hf', ht', h2⟩
    · exact h2 s _ hf.1 rfl
    · obtain ⟨rfl, e⟩ := fsn_u hf hf'
      obtain rfl : t' = t := qi_inj (by omega) (by omega) e
      have := hc t' ht
      rw [hv] at h2
      rcases h2 with h2 | h2
      · exact qi_p (by omega) h2
      · have := (qi_le (by omega) (by omega)).mp h2
        omega
theorem fsn_ex (ls : List qV) (nm : Int32) : (∀ (s : Nat) (w : qV), ls[s]? = some w → ¬ w.2 = nm) ∨ ∃ s t, fsn ls nm s t := by
  have : ∀ n, n ≤ ls.length → (∀ (s : Nat) (w : qV), s < n → ls[s]? = some w → ¬ w.2 = nm) ∨ ∃ s t, fsn ls nm s t := by
    intro n
    induction n with
    | zero => intro _; exact Or.inl fun s w hs => absurd hs (by omega)
    | succ n ih =>
      intro hn
      rcases ih (by omega) with h | h
      · by_cases hx : (ls[n]'(by omega)).2 = nm
        · refine Or.inr ⟨n, (ls[n]'(by omega)).1, ?_, h⟩
          rw [List.getElem?_eq_getElem (by omega)]
          congr 1
          exact Prod.ext rfl hx
        · refine Or.inl fun s w hs hw => ?_
          rcases Nat.lt_or_eq_of_le (Nat.le_of_lt_succ hs) with h' | h'
          · exact h s w h' hw
          · subst h'
            rw [List.getElem?_eq_getElem (by omega)] at hw
            cases hw
            exact hx
      · exact Or.inr h
  rcases this ls.length (Nat.le_refl _) with h | h
  · refine Or.inl fun s w hw => h s w ?_ hw
    exact (List.getElem?_eq_some_iff.mp hw).1
  · exact Or.inr h
section GRF
variable {d : Nat} {P : qE → Prop} {X : qH} {sw : Bool} {o : Int64} {e : List Nat} {N : Nat} {K V : Nat → Int32} {S : Nat → Nat} {B : Nat}
theorem uv_slt {m : Nat → Nat → Int32} {b : qBk} {k : Nat} {v : qV} (h : blk m B b) (hu : uv b k = some v) : slt m B k v := by
  obtain ⟨h1, h2, h3, h4, h5, h6, h7, h8, h9⟩ := h
  unfold uv at hu
  by_cases hk : k < 3
  · rw [if_pos hk] at hu
    exact h4 k v hu
  · rw [if_neg hk] at hu
    rcases hc : b.2.2.2[(k - 3) / 2]? with _ | c
    · rw [hc] at hu; simp at hu
    · rw [hc] at hu
      have := h9 _ c hc
      simp at hu
      by_cases hp : (k - 3) % 2 = 0
      · rw [if_pos hp] at hu
        rw [show 3 + 2 * ((k - 3) / 2) = k by omega] at this
        rw [← hu]; exact this.1
      · rw [if_neg hp] at hu
        rw [show 4 + 2 * ((k - 3) / 2) = k by omega] at this
        rw [← hu]; exact this.2.1
theorem uv_some {b : qBk} {k : Nat} : (∃ v, uv b k = some v) ↔ (k < 3 ∧ k < b.2.1.length) ∨ (3 ≤ k ∧ k < 3 + 2 * b.2.2.2.length) := by
  unfold uv
  by_cases hk : k < 3
  · rw [if_pos hk]
    constructor
    · rintro ⟨v, hv⟩
      exact Or.inl ⟨hk, (List.getElem?_eq_some_iff.mp hv).1⟩
    · rintro (h | h)
      · exact ⟨_, List.getElem?_eq_getElem h.2⟩
      · omega
  · rw [if_neg hk]
    constructor
    · rintro ⟨v, hv⟩
      rcases hc : b.2.2.2[(k - 3) / 2]? with _ | c
      · rw [hc] at hv; simp at hv
      · have := (List.getElem?_eq_some_iff.mp hc).1
        exact Or.inr (by omega)
    · rintro (h | h)
      · omega
      · have : (k - 3) / 2 < b.2.2.2.length := by omega
        rw [List.getElem?_eq_getElem this]
        exact ⟨_, rfl⟩
theorem cBl_isUsed {m : Nat → Nat → Int32} {b : qBk} {k : Nat} (hX : X.length = 13) (hB : kBl B) (h1 : m B 1 = qi b.2.1.length) (h2 : m B 3 = qi b.2.2.2.length) (h3 : b.2.1.length ≤ 3) (h4 : b.2.2.2.length ≤ 6) (hk : k < 15)
    (k1 : (∃ v, uv b k = some v) → P (.inl (some (.int 1)), hpo X m sw o e)) (k0 : (¬ ∃ v, uv b k = some v) → P (.inl (some (.int 0)), hpo X m sw o e)) : QW (d + 1) mBl_isUsed 0 (qen 2 [.ref B, .int (qi k)]) [] (hpo X m sw o e) P := by
  rw [uv_some] at k1 k0
  have e3 : ((3 : Int32) ≤ qi k) ↔ 3 ≤ k := qi_le (a := 3) (by omega) (by omega)
  refine bBl_isUsed_0 hX hB (fun x => bBl_lowSlot_0 hX (qcl_i ?_)) (fun x y => ?_) (fun x y => ?_)
  · rw [h2, q_low]
    rw [e3] at x
    refine bBl_isUsed_29 hX hB (fun z => ?_) (fun z => ?_)
    · rw [qi_le (by omega) (by omega)] at z
      exact k0 (by omega)
    · rw [qi_le (by omega) (by omega)] at z
      exact k1 (by omega)
  · rw [e3] at x
    rw [h1, qi_le (by omega) (by omega)] at y
    exact k0 (by omega)
  · rw [e3] at x
    rw [h1, qi_le (by omega) (by omega)] at y
    exact k1 (by omega)
theorem cBl_bind {mem : Nat → Nat → Int32} {b : qBk} {col : Nat → Nat} (hX : X.length = 13) (hB : kBl B) (hB1 : 35 < B) (hb : blk mem B b) (hco : ∀ t, t < 4 → mem (16 + 3 * t) 0 = qi (col t) ∧ col t ≤ 3) (hls : ∀ (s : Nat) (v : qV), b.2.2.1[s]? = some v → ∃ t, t < 4 ∧ v.1 = qi t)
    (k1 : ∀ m', (∀ j q, ¬ j = B + 5 → m' j q = mem j q) → (∀ k v, uv b k = some v → bsl b.2.2.1 col v (m' (B + 5) k)) → P (.inl (some (.int 1)), hpo X m' sw o e))
    (k0 : ∀ m', (∀ j q, ¬ j = B + 5 → m' j q = mem j q) → (∃ k v, uv b k = some v ∧ bbd b.2.2.1 col v) → P (.inl (some (.int 0)), hpo X m' sw o e)) :
    QW (d + 1 + 1) mBl_bind 0 (qen 4 [.ref B, .ref 14]) [] (hpo X mem sw o e) P := by
  have hb' := hb
  obtain ⟨h1, h2, h3, h4, h5, h6, h7, h8, h9⟩ := hb'
  have lp : ∀ f i m w3, qfr w3 → i + f = 15 → (∀ j q, ¬ (j = B + 5 ∧ q < i) → m j q = mem j q) → (∀ k v, k < i → uv b k = some v → bsl b.2.2.1 col v (m (B + 5) k)) → QW (d + 1 + 1) mBl_bind 2 (lBl_bind_2 (qi i) w3 B) [] (hpo X m sw o e) P := by
    intro f
    induction f with
    | zero =>
      intro i m w3 hw3 hi hfr hbs
      obtain rfl : i = 15 := by omega
      refine bBl_bind_2 hX hB hw3 (fun _ => k1 m (fun j q a => hfr j q (by omega)) (fun k v hu => hbs k v ?_ hu)) (fun z => absurd (by decide) z)
      have := uv_some.mp ⟨v, hu⟩
      omega
    | succ f ih =>
      intro i m w3 hw3 hi hfr hbs
      have h15 : ¬ (15 : Int32) ≤ qi i := fun z => by have := (qi_le (a := 15) (by omega) (by omega)).mp z; omega
      have hii : inx (qi i) 15 := qi_inx (by omega) (by omega)
      refine bBl_bind_2 hX hB hw3 (fun z => absurd z h15) (fun _ => cBl_isUsed (b := b) hX hB (by rw [hfr _ _ (by omega)]; exact h2) (by rw [hfr _ _ (by omega)]; exact h7) h3.2 h8 (by omega) (fun hu => ?_) (fun hu => ?_))
      · obtain ⟨v, hu⟩ := hu
        have hs := uv_slt hb hu
        have e4 : m (B + 4) i = v.1 := by rw [hfr _ _ (by omega)]; exact hs.1
        have e5 : m (B + 5) i = -1 := by rw [hfr _ _ (by omega)]; exact hs.2.1
        have e6 : m (B + 6) i = v.2 := by rw [hfr _ _ (by omega)]; exact hs.2.2
        refine qcl_i (bBl_bind_13 hX hB hw3 (fun z => absurd z (by decide)) (fun _ => hii) (fun _ z => ?_) (fun _ _ => hii) (fun _ z => ?_))
        · rw [qi_N (by omega), e4] at z
          rw [qi_1]
          refine ih (i + 1) m w3 hw3 (by omega) (fun j q a => hfr j q (by omega)) (fun k w hk hw => ?_)
          rcases Nat.lt_or_eq_of_le (Nat.le_of_lt_succ hk) with h' | h'
          · exact hbs k w h' hw
          · subst h'
            obtain rfl : v = w := by simpa using hu.symm.trans hw
            exact Or.inl ⟨z, e5⟩
        · rw [qi_N (by omega), e4] at z
          rw [qi_N (by omega), e4]
          refine cBl_sourceNamed (ns := b.2.2.1.length) hX hB (by rw [hfr _ _ (by omega)]; exact h5.1) h6.2 (fun s g1 g2 g3 => ?_) (fun g => ?_)
          · -- found
            have hsv : b.2.2.1[s]? = some b.2.2.1[s] := List.getElem?_eq_getElem g1
            obtain ⟨t, ht, htv⟩ := hls s _ hsv
            have hx := h5.2 s _ hsv
            have hf : fsn b.2.2.1 v.1 s (qi t) := by
              refine ⟨?_, fun r w hr hw => ?_⟩
              · rw [hsv, ← htv]
                congr 1
                refine Prod.ext rfl ?_
                rw [← hx.2, ← g2, hfr _ _ (by omega)]
              · have := g3 r hr
                rw [hfr _ _ (by omega), (h5.2 r w hw).2] at this
                exact this
            have hp : ¬ qi s < 0 := qi_p (by omega)
            have et : m (B + 1) s = qi t := by rw [hfr _ _ (by omega), hx.1, htv]
            refine qcl_i (bBl_bind_35 hX hB hw3 (fun y => absurd y hp) (fun _ => qi_inx (by omega) (by omega)) (fun _ => by rw [qi_N (by omega), et]; exact qi_inx ht (by omega)) (fun _ => hii) (fun _ => ?_))
            rw [qi_N (a := s) (by omega), et, qi_N (a := t) (by omega), qi_N (a := i) (by omega), e6]
            have ec : m (16 + 3 * t) 0 = qi (col t) := by rw [hfr _ _ (by omega)]; exact (hco t ht).1
            refine bTab_hasColumn_0 hX (kTab_at ht) (fun y => ?_) (fun y1 y2 => ?_) (fun y1 y2 => ?_)
            · refine qcl_i (bBl_bind_60 hX hB (fun y => absurd rfl y) (fun y => absurd rfl y) (fun _ => k0 m (fun j q a => hfr j q (by omega)) ⟨i, v, hu, z, Or.inr ⟨s, t, hf, ht, Or.inl y⟩⟩))
            · rw [ec] at y2
              refine qcl_i (bBl_bind_60 hX hB (fun y => absurd rfl y) (fun y => absurd rfl y) (fun _ => k0 m (fun j q a => hfr j q (by omega)) ⟨i, v, hu, z, Or.inr ⟨s, t, hf, ht, Or.inr y2⟩⟩))
            · rw [ec] at y2
              refine qcl_i (bBl_bind_60 hX hB (fun _ => hii) (fun _ => ?_) (fun y => absurd y (by decide)))
              rw [qi_1, qi_N (by omega)]
              refine ih (i + 1) _ _ (Or.inr (Or.inl ⟨_, rfl⟩)) (by omega) (fun j q a => by (repeat (rw [mup_q]; first | rw [if_pos (by omega)] | rw [if_neg (by omega)])); exact hfr j q (by omega)) (fun k w hk hw => ?_)
              rcases Nat.lt_or_eq_of_le (Nat.le_of_lt_succ hk) with h' | h'
              · rw [show mup m (B + 5) i (qi s) (B + 5) k = m (B + 5) k by (repeat (rw [mup_q]; first | rw [if_pos (by omega)] | rw [if_neg (by omega)]))]
                exact hbs k w h' hw
              · subst h'
                obtain rfl : v = w := by simpa using hu.symm.trans hw
                rw [mup_at]
                obtain ⟨c, hc, hcv⟩ := qi_of y1
                rw [hcv, qi_le (by have := (hco t ht).2; omega) hc] at y2
                exact Or.inr ⟨z, s, t, c, rfl, hf, ht, hcv, by omega⟩
          · refine qcl_i (bBl_bind_35 hX hB hw3 (fun _ => k0 m (fun j q a => hfr j q (by omega)) ⟨i, v, hu, z, Or.inl fun s w hw => ?_⟩) (fun y => absurd (by decide) y) (fun y => absurd (by decide) y) (fun y => absurd (by decide) y) (fun y => absurd (by decide) y))
            have hl := (List.getElem?_eq_some_iff.mp hw).1
            have := g s hl
            rw [hfr _ _ (by omega), (h5.2 s w hw).2] at this
            exact this
      · refine qcl_i (bBl_bind_13 hX hB hw3 (fun _ => ?_) (fun y => absurd rfl y) (fun y => absurd rfl y) (fun y => absurd rfl y) (fun y => absurd rfl y))
        rw [qi_1]
        refine ih (i + 1) m w3 hw3 (by omega) (fun j q a => hfr j q (by omega)) (fun k w hk hw => ?_)
        rcases Nat.lt_or_eq_of_le (Nat.le_of_lt_succ hk) with h' | h'
        · exact hbs k w h' hw
        · subst h'
          exact absurd ⟨w, hw⟩ hu
  exact bBl_bind_0 hX hB (lp 15 0 mem .unset (Or.inl rfl) (by omega) (fun j q _ => rfl) (fun k v hk => absurd hk (by omega)))
end GRF
