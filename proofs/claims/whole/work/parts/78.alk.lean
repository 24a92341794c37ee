/-- a block as the normal form sees it: counts of sources, conditions, outputs; each source's table, its columns, its keys; the conditions' sides, which of them say less; the outputs. A value is 3 s + c for a column, 2000 + n for a number -/
abbrev qD : Type := (Nat × Nat × Nat) × (Nat → Nat) × (Nat → Nat) × (Nat → Nat → Prop) × (Nat → Int32) × (Nat → Int32) × (Nat → Prop) × (Nat → Int32)
abbrev dns (D : qD) : Nat := D.1.1
abbrev dnc (D : qD) : Nat := D.1.2.1
abbrev dno (D : qD) : Nat := D.1.2.2
abbrev dtb (D : qD) : Nat → Nat := D.2.1
abbrev dcl (D : qD) : Nat → Nat := D.2.2.1
abbrev dky (D : qD) : Nat → Nat → Prop := D.2.2.2.1
abbrev dlf (D : qD) : Nat → Int32 := D.2.2.2.2.1
abbrev drg (D : qD) : Nat → Int32 := D.2.2.2.2.2.1
abbrev dls (D : qD) : Nat → Prop := D.2.2.2.2.2.2.1
abbrev dou (D : qD) : Nat → Int32 := D.2.2.2.2.2.2.2
def cc (s c : Nat) : Int32 := qi (3 * s + c)
def isN (v : Int32) : Prop := 1000 < v ∧ v < 3000
def isK (D : qD) (v : Int32) : Prop := ∃ s c, s < dns D ∧ c < dcl D s ∧ v = cc s c
def uN (D : qD) (v : Int32) : Prop := isN v ∧ ((∃ i, i < dnc D ∧ (dlf D i = v ∨ drg D i = v)) ∨ ∃ i, i < dno D ∧ dou D i = v)
def okD (D : qD) : Prop := (1 ≤ dns D ∧ dns D ≤ 4) ∧ dnc D ≤ 6 ∧ (1 ≤ dno D ∧ dno D ≤ 3) ∧ (∀ s, s < dns D → dcl D s ≤ 3 ∧ dtb D s < 4) ∧ (∀ s t, s < dns D → t < dns D → dtb D s = dtb D t → dcl D s = dcl D t ∧ ∀ c, dky D s c ↔ dky D t c) ∧
  (∀ i, i < dnc D → (isK D (dlf D i) ∨ isN (dlf D i)) ∧ (isK D (drg D i) ∨ isN (drg D i))) ∧ ∀ i, i < dno D → isK D (dou D i) ∨ isN (dou D i)
/-- a relation that keeps what is declared -/
def clo (D : qD) (r : Int32 → Int32 → Prop) : Prop := (∀ x, r x x) ∧ (∀ x y, r x y → r y x) ∧ (∀ x y z, r x y → r y z → r x z) ∧ (∀ i, i < dnc D → ¬ dls D i → r (dlf D i) (drg D i)) ∧
  ∀ s t c c', s < dns D → t < dns D → dtb D s = dtb D t → c < dcl D s → dky D s c → r (cc s c) (cc t c) → c' < dcl D s → r (cc s c') (cc t c')
def eqv (D : qD) (x y : Int32) : Prop := ∀ r, clo D r → r x y
def one (D : qD) (s t : Nat) : Prop := dtb D s = dtb D t ∧ ∃ c, c < dcl D s ∧ dky D s c ∧ eqv D (cc s c) (cc t c)
def std (D : qD) (s : Nat) : Prop := s < dns D ∧ ∀ r, r < s → ¬ one D r s
def num (D : qD) (v w : Int32) : Prop := uN D w ∧ eqv D v w
def Emp (D : qD) : Prop := (∃ v w, uN D v ∧ uN D w ∧ v ≠ w ∧ eqv D v w) ∨ ∃ i, i < dnc D ∧ dls D i ∧ (eqv D (dlf D i) (drg D i) ∨ ∃ v w, num D (dlf D i) v ∧ num D (drg D i) w ∧ w ≤ v)
section ALK
variable {D : qD}
theorem eqv_clo (D : qD) : clo D (eqv D) := by
  refine ⟨fun x r h => h.1 x, fun x y h r hr => hr.2.1 _ _ (h r hr), fun x y z h1 h2 r hr => hr.2.2.1 _ _ _ (h1 r hr) (h2 r hr), fun i hi hl r hr => hr.2.2.2.1 i hi hl, fun s t c c' h1 h2 h3 h4 h5 h6 h7 r hr => hr.2.2.2.2 s t c c' h1 h2 h3 h4 h5 (h6 r hr) h7⟩
theorem eqv_r (x : Int32) : eqv D x x := (eqv_clo D).1 x
theorem eqv_s {x y : Int32} (h : eqv D x y) : eqv D y x := (eqv_clo D).2.1 x y h
theorem eqv_t {x y z : Int32} (h : eqv D x y) (h2 : eqv D y z) : eqv D x z := (eqv_clo D).2.2.1 x y z h h2
theorem one_full {s t c' : Nat} (hs : s < dns D) (ht : t < dns D) (h : one D s t) (hc : c' < dcl D s) : eqv D (cc s c') (cc t c') := by
  obtain ⟨h1, c, h2, h3, h4⟩ := h
  exact (eqv_clo D).2.2.2.2 s t c c' hs ht h1 h2 h3 h4 hc
theorem one_s (ok : okD D) {s t : Nat} (hs : s < dns D) (ht : t < dns D) (h : one D s t) : one D t s := by
  obtain ⟨h1, c, h2, h3, h4⟩ := h
  obtain ⟨e1, e2⟩ := ok.2.2.2.2.1 s t hs ht h1
  exact ⟨h1.symm, c, by rw [← e1]; exact h2, (e2 c).mp h3, eqv_s h4⟩
theorem one_t (ok : okD D) {s t u : Nat} (hs : s < dns D) (ht : t < dns D) (h : one D s t) (h' : one D t u) : one D s u := by
  have h0 := h
  obtain ⟨h1, -⟩ := h
  obtain ⟨h2, c, h3, h4, h5⟩ := h'
  obtain ⟨e1, e2⟩ := ok.2.2.2.2.1 s t hs ht h1
  have hc : c < dcl D s := by rw [e1]; exact h3
  exact ⟨h1.trans h2, c, hc, (e2 c).mpr h4, eqv_t (one_full hs ht h0 hc) h5⟩
/-- every source is one with a source that stands -/
theorem one_std (ok : okD D) : ∀ s, s < dns D → ∃ r, r ≤ s ∧ std D r ∧ (r = s ∨ one D r s) := by
  intro s
  induction s using Nat.strongRecOn with
  | ind s ih =>
    intro hs
    by_cases h : ∃ r, r < s ∧ one D r s
    · obtain ⟨r, hr, ho⟩ := h
      obtain ⟨q, h1, h2, h3⟩ := ih r hr (by omega)
      refine ⟨q, by omega, h2, Or.inr ?_⟩
      rcases h3 with h3 | h3
      · rw [h3]; exact ho
      · exact one_t ok (by omega) (by omega) h3 ho
    · exact ⟨s, Nat.le_refl _, ⟨hs, fun r hr ho => h ⟨r, hr, ho⟩⟩, Or.inl rfl⟩
/-- the value of a node: columns first, then numbers -/
def cdn (nu : Nat → Int32) (a : Nat) : Int32 := if a < 12 then qi a else nu (a - 12)
def nd (D : qD) (nn a : Nat) : Prop := (∃ s c, s < dns D ∧ c < dcl D s ∧ a = 3 * s + c) ∨ (12 ≤ a ∧ a < 12 + nn)
def nok (nn : Nat) (nu : Nat → Int32) : Prop := (∀ i, i < nn → isN (nu i)) ∧ ∀ i j, i < nn → j < nn → nu i = nu j → i = j
theorem nd_lt (ok : okD D) {nn a : Nat} (h : nd D nn a) : a < 12 + nn := by
  rcases h with ⟨s, c, h1, h2, rfl⟩ | h
  · have := (ok.2.2.2.1 s h1).1
    have := ok.1.2
    omega
  · exact h.2
theorem nd_col (ok : okD D) {nn s c : Nat} {nu : Nat → Int32} (hs : s < dns D) (hc : c < dcl D s) : nd D nn (3 * s + c) ∧ cdn nu (3 * s + c) = cc s c := by
  have := (ok.2.2.2.1 s hs).1
  have := ok.1.2
  exact ⟨Or.inl ⟨s, c, hs, hc, rfl⟩, by unfold cdn cc; rw [if_pos (by omega)]⟩
theorem nd_num {nn i : Nat} {nu : Nat → Int32} (hi : i < nn) : nd D nn (12 + i) ∧ cdn nu (12 + i) = nu i := ⟨Or.inr ⟨by omega, by omega⟩, by unfold cdn; rw [if_neg (by omega), Nat.add_sub_cancel_left]⟩
theorem cN {a : Nat} (ha : a < 12) : ¬ isN (qi a) := by
  rintro ⟨h1, -⟩
  have : 1000 < a := (qi_lt (a := 1000) (by omega) (by omega)).mp h1
  omega
theorem cdn_inj (ok : okD D) {nn a b : Nat} {nu : Nat → Int32} (hn : nok nn nu) (ha : nd D nn a) (hb : nd D nn b) (h : cdn nu a = cdn nu b) : a = b := by
  have la := nd_lt ok ha
  have lb := nd_lt ok hb
  unfold cdn at h
  by_cases h1 : a < 12
  · by_cases h2 : b < 12
    · rw [if_pos h1, if_pos h2] at h
      exact qi_inj (by omega) (by omega) h
    · rw [if_pos h1, if_neg h2] at h
      exact absurd (h ▸ hn.1 (b - 12) (by omega)) (cN h1)
  · by_cases h2 : b < 12
    · rw [if_neg h1, if_pos h2] at h
      exact absurd (h ▸ hn.1 (a - 12) (by omega)) (cN h2)
    · rw [if_neg h1, if_neg h2] at h
      have := hn.2 _ _ (by omega) (by omega) h
      omega
/-- nodes of one class have the same value always -/
def snd (D : qD) (nn : Nat) (nu : Nat → Int32) (g : Nat → Int32) : Prop := ∀ a b, nd D nn a → nd D nn b → g a = g b → eqv D (cdn nu a) (cdn nu b)
def mrg (g : Nat → Int32) (a b : Int32) : Nat → Int32 := fun x => if g x = b then a else g x
theorem mrg_eq {g : Nat → Int32} {a b : Int32} {x y : Nat} (h : g x = g y) : mrg g a b x = mrg g a b y := by unfold mrg; rw [h]
theorem mrg_same {g : Nat → Int32} {a : Int32} : mrg g a a = g := by
  funext x
  unfold mrg
  by_cases h : g x = a
  · rw [if_pos h, h]
  · rw [if_neg h]
theorem mrg_xy {g : Nat → Int32} {x y : Nat} : mrg g (g x) (g y) x = mrg g (g x) (g y) y := by
  unfold mrg
  rw [if_pos rfl]
  by_cases h : g x = g y
  · rw [if_pos h]
  · rw [if_neg h]
theorem snd_mrg {nn : Nat} {nu g : Nat → Int32} {x y : Nat} (h : snd D nn nu g) (hx : nd D nn x) (hy : nd D nn y) (he : eqv D (cdn nu x) (cdn nu y)) : snd D nn nu (mrg g (g x) (g y)) := by
  intro a b ha hb hab
  unfold mrg at hab
  by_cases h1 : g a = g y
  · rw [if_pos h1] at hab
    have q1 : eqv D (cdn nu a) (cdn nu x) := eqv_t (h a y ha hy h1) (eqv_s he)
    by_cases h2 : g b = g y
    · exact eqv_t q1 (eqv_t he (h y b hy hb h2.symm))
    · rw [if_neg h2] at hab
      exact eqv_t q1 (h x b hx hb hab)
  · rw [if_neg h1] at hab
    by_cases h2 : g b = g y
    · rw [if_pos h2] at hab
      exact eqv_t (h a x ha hx hab) (eqv_t he (h y b hy hb h2.symm))
    · rw [if_neg h2] at hab
      exact h a b ha hb hab
/-- the sources s and t are the same in all their columns -/
def ful (D : qD) (g : Nat → Int32) (s t : Nat) : Prop := ∀ c, c < dcl D s → g (3 * s + c) = g (3 * t + c)
def on1 (D : qD) (g : Nat → Int32) (s t : Nat) : Prop := dtb D s = dtb D t ∧ ∃ c, c < dcl D s ∧ dky D s c ∧ g (3 * s + c) = g (3 * t + c)
/-- the classes keep the keys -/
def kcl (D : qD) (g : Nat → Int32) : Prop := ∀ s t, s < dns D → t < dns D → on1 D g s t → ful D g s t
def ecl (D : qD) (nn : Nat) (nu : Nat → Int32) (g : Nat → Int32) : Prop := ∀ i, i < dnc D → ¬ dls D i → ∃ a b, nd D nn a ∧ nd D nn b ∧ cdn nu a = dlf D i ∧ cdn nu b = drg D i ∧ g a = g b
def frm (D : qD) (nn : Nat) (nu : Nat → Int32) (g : Nat → Int32) : Prop := nok nn nu ∧ (∀ v, uN D v ↔ ∃ i, i < nn ∧ nu i = v) ∧ ∀ a b, nd D nn a → nd D nn b → (g a = g b ↔ eqv D (cdn nu a) (cdn nu b))
theorem frm_of (ok : okD D) {nn : Nat} {nu g : Nat → Int32} (hn : nok nn nu) (hu : ∀ v, uN D v ↔ ∃ i, i < nn ∧ nu i = v) (hs : snd D nn nu g) (he : ecl D nn nu g) (hk : kcl D g) : frm D nn nu g := by
  refine ⟨hn, hu, fun a b ha hb => ⟨hs a b ha hb, fun h => ?_⟩⟩
  have key := h (fun x y => x = y ∨ ∃ a b, nd D nn a ∧ nd D nn b ∧ cdn nu a = x ∧ cdn nu b = y ∧ g a = g b) ?_
  · rcases key with q | ⟨a', b', h1, h2, h3, h4, h5⟩
    · rw [cdn_inj ok hn ha hb q]
    · rw [cdn_inj ok hn ha h1 h3.symm, cdn_inj ok hn hb h2 h4.symm]
      exact h5
  · refine ⟨fun x => Or.inl rfl, fun x y q => ?_, fun x y z q1 q2 => ?_, fun i hi hl => Or.inr (he i hi hl), fun s t c c' hs' ht' hts hc hky q hc' => ?_⟩
    · rcases q with q | ⟨a', b', h1, h2, h3, h4, h5⟩
      · exact Or.inl q.symm
      · exact Or.inr ⟨b', a', h2, h1, h4, h3, h5.symm⟩
    · rcases q1 with rfl | ⟨a', b', h1, h2, h3, h4, h5⟩
      · exact q2
      · rcases q2 with rfl | ⟨a2, b2, k1, k2, k3, k4, k5⟩
        · exact Or.inr ⟨a', b', h1, h2, h3, h4, h5⟩
        · have : b' = a2 := cdn_inj ok hn h2 k1 (h4.trans k3.symm)
          subst this
          exact Or.inr ⟨a', b2, h1, k2, h3, k4, h5.trans k5⟩
    · have e := (ok.2.2.2.2.1 s t hs' ht' hts).1
      have n1 := nd_col ok (nn := nn) (nu := nu) hs' hc'
      have n2 := nd_col ok (nn := nn) (nu := nu) ht' (show c' < dcl D t by rw [← e]; exact hc')
      have m1 := nd_col ok (nn := nn) (nu := nu) hs' hc
      have m2 := nd_col ok (nn := nn) (nu := nu) ht' (show c < dcl D t by rw [← e]; exact hc)
      have hg : g (3 * s + c) = g (3 * t + c) := by
        rcases q with q | ⟨a', b', h1, h2, h3, h4, h5⟩
        · rw [cdn_inj ok hn m1.1 m2.1 (by rw [m1.2, m2.2]; exact q)]
        · rw [← cdn_inj ok hn h1 m1.1 (by rw [m1.2]; exact h3), ← cdn_inj ok hn h2 m2.1 (by rw [m2.2]; exact h4)]
          exact h5
      exact Or.inr ⟨3 * s + c', 3 * t + c', n1.1, n2.1, n1.2, n2.2, hk s t hs' ht' ⟨hts, c, hc, hky, hg⟩ c' hc'⟩
theorem frm_one (ok : okD D) {nn : Nat} {nu g : Nat → Int32} (h : frm D nn nu g) {s t : Nat} (hs : s < dns D) (ht : t < dns D) : on1 D g s t ↔ one D s t := by
  constructor
  · rintro ⟨h1, c, h2, h3, h4⟩
    have e := (ok.2.2.2.2.1 s t hs ht h1).1
    have m1 := nd_col ok (nn := nn) (nu := nu) hs h2
    have m2 := nd_col ok (nn := nn) (nu := nu) ht (show c < dcl D t by rw [← e]; exact h2)
    have := (h.2.2 _ _ m1.1 m2.1).mp h4
    rw [m1.2, m2.2] at this
    exact ⟨h1, c, h2, h3, this⟩
  · rintro ⟨h1, c, h2, h3, h4⟩
    have e := (ok.2.2.2.2.1 s t hs ht h1).1
    have m1 := nd_col ok (nn := nn) (nu := nu) hs h2
    have m2 := nd_col ok (nn := nn) (nu := nu) ht (show c < dcl D t by rw [← e]; exact h2)
    exact ⟨h1, c, h2, h3, (h.2.2 _ _ m1.1 m2.1).mpr (by rw [m1.2, m2.2]; exact h4)⟩
theorem snd_one (ok : okD D) {nn : Nat} {nu g : Nat → Int32} (h : snd D nn nu g) {s t : Nat} (hs : s < dns D) (ht : t < dns D) (ho : on1 D g s t) : one D s t := by
  obtain ⟨h1, c, h2, h3, h4⟩ := ho
  have e := (ok.2.2.2.2.1 s t hs ht h1).1
  have m1 := nd_col ok (nn := nn) (nu := nu) hs h2
  have m2 := nd_col ok (nn := nn) (nu := nu) ht (show c < dcl D t by rw [← e]; exact h2)
  have := h _ _ m1.1 m2.1 h4
  rw [m1.2, m2.2] at this
  exact ⟨h1, c, h2, h3, this⟩
end ALK
section CNT
/-- how many of 1, 2, 3 have one before them that is the same -/
noncomputable def ind (p : Prop) : Nat := @ite _ p (Classical.propDecidable _) 1 0
theorem ind_t {p : Prop} (h : p) : ind p = 1 := by unfold ind; exact if_pos h
theorem ind_f {p : Prop} (h : ¬ p) : ind p = 0 := by unfold ind; exact if_neg h
theorem ind_le {p q : Prop} (h : p → q) : ind p ≤ ind q := by
  by_cases hp : p
  · rw [ind_t hp, ind_t (h hp)]; exact Nat.le_refl _
  · rw [ind_f hp]; exact Nat.zero_le _
theorem ind_1 (p : Prop) : ind p ≤ 1 := by
  by_cases hp : p
  · rw [ind_t hp]; exact Nat.le_refl _
  · rw [ind_f hp]; omega
def bef (F : Nat → Nat → Prop) (s : Nat) : Prop := ∃ r, r < s ∧ F r s
noncomputable def cnF (F : Nat → Nat → Prop) : Nat := ind (bef F 1) + ind (bef F 2) + ind (bef F 3)
theorem cnF_3 (F : Nat → Nat → Prop) : cnF F ≤ 3 := by
  have := ind_1 (bef F 1)
  have := ind_1 (bef F 2)
  have := ind_1 (bef F 3)
  unfold cnF
  omega
theorem cnF_mono {F G : Nat → Nat → Prop} (h : ∀ r s, F r s → G r s) : cnF F ≤ cnF G := by
  have m : ∀ s, ind (bef F s) ≤ ind (bef G s) := fun s => ind_le (fun ⟨r, h1, h2⟩ => ⟨r, h1, h r s h2⟩)
  have := m 1
  have := m 2
  have := m 3
  unfold cnF
  omega
theorem bef_min {F : Nat → Nat → Prop} (hr : ∀ s, F s s) (ht : ∀ r s t, F r s → F s t → F r t) : ∀ s, ∃ p, p ≤ s ∧ F p s ∧ ¬ bef F p := by
  intro s
  induction s using Nat.strongRecOn with
  | ind s ih =>
    by_cases h : bef F s
    · obtain ⟨r, h1, h2⟩ := h
      obtain ⟨p, h3, h4, h5⟩ := ih r h1
      exact ⟨p, by omega, ht _ _ _ h4 h2, h5⟩
    · exact ⟨s, Nat.le_refl _, hr s, h⟩
theorem cnF_lt {F G : Nat → Nat → Prop} (hr : ∀ s, F s s) (hs : ∀ r s, F r s → F s r) (ht : ∀ r s t, F r s → F s t → F r t) (h : ∀ r s, F r s → G r s) (gs : ∀ r s, G r s → G s r) (gt : ∀ r s t, G r s → G s t → G r t) {s t : Nat} (h4 : s < 4) (h5 : t < 4) (hn : ¬ F s t) (hg : G s t) : cnF F < cnF G := by
  have m : ∀ s, ind (bef F s) ≤ ind (bef G s) := fun s => ind_le (fun ⟨r, h1, h2⟩ => ⟨r, h1, h r s h2⟩)
  obtain ⟨p, p1, p2, p3⟩ := bef_min hr ht s
  obtain ⟨q, q1, q2, q3⟩ := bef_min hr ht t
  have hpq : G p q := gt _ _ _ (h _ _ p2) (gt _ _ _ hg (gs _ _ (h _ _ q2)))
  have hne : p ≠ q := by
    intro e
    subst e
    exact hn (ht _ _ _ (hs _ _ p2) q2)
  have fin : ∀ z, ¬ bef F z → bef G z → 1 ≤ z → z < 4 → cnF F < cnF G := by
    intro z z1 z2 z3 z4
    have e1 : ind (bef F z) < ind (bef G z) := by rw [ind_f z1, ind_t z2]; omega
    have := m 1
    have := m 2
    have := m 3
    unfold cnF
    rcases (show z = 1 ∨ z = 2 ∨ z = 3 by omega) with rfl | rfl | rfl <;> omega
  rcases Nat.lt_or_gt_of_ne hne with hlt | hlt
  · exact fin q q3 ⟨p, hlt, hpq⟩ (by omega) (by omega)
  · exact fin p p3 ⟨q, hlt, gs _ _ hpq⟩ (by omega) (by omega)
theorem cnF_all {F : Nat → Nat → Prop} (hr : ∀ s, F s s) (hs : ∀ r s, F r s → F s r) (ht : ∀ r s t, F r s → F s t → F r t) (h : 3 ≤ cnF F) {s t : Nat} (h4 : s < 4) (h5 : t < 4) : F s t := by
  have b : bef F 1 ∧ bef F 2 ∧ bef F 3 := by
    have m1 := ind_1 (bef F 1)
    have m2 := ind_1 (bef F 2)
    have m3 := ind_1 (bef F 3)
    unfold cnF at h
    refine ⟨Classical.byContradiction fun q => ?_, Classical.byContradiction fun q => ?_, Classical.byContradiction fun q => ?_⟩
    · rw [ind_f q] at h; omega
    · rw [ind_f q] at h; omega
    · rw [ind_f q] at h; omega
  have z : ∀ s, s < 4 → F 0 s := by
    intro s
    induction s using Nat.strongRecOn with
    | ind s ih =>
      intro h4
      by_cases h0 : s = 0
      · rw [h0]; exact hr 0
      · have : bef F s := by
          rcases (show s = 1 ∨ s = 2 ∨ s = 3 by omega) with rfl | rfl | rfl
          · exact b.1
          · exact b.2.1
          · exact b.2.2
        obtain ⟨r, h1, h2⟩ := this
        exact ht _ _ _ (ih r h1 (by omega)) h2
  exact ht _ _ _ (hs _ _ (z s h4)) (z t h5)
end CNT
