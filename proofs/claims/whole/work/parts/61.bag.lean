/-- a row of three ints -/
abbrev qRw : Type := Int32 × Int32 × Int32
def rlt (a b : qRw) : Prop := a.1 < b.1 ∨ (a.1 = b.1 ∧ (a.2.1 < b.2.1 ∨ (a.2.1 = b.2.1 ∧ a.2.2 < b.2.2)))
theorem i_tri (x y : Int32) : x < y ∨ x = y ∨ y < x := by
  rcases Int32.lt_or_le x y with h | h
  · exact Or.inl h
  · rcases Int32.le_iff_lt_or_eq.mp h with h' | h'
    · exact Or.inr (Or.inr h')
    · exact Or.inr (Or.inl h'.symm)
theorem rlt_ir {a : qRw} : ¬ rlt a a := by
  rintro (h | ⟨_, h | ⟨_, h⟩⟩)
  · exact Int32.lt_irrefl h
  · exact Int32.lt_irrefl h
  · exact Int32.lt_irrefl h
theorem rlt_tr {a b c : qRw} (h : rlt a b) (h' : rlt b c) : rlt a c := by
  rcases h with h | ⟨e1, h⟩
  · rcases h' with g | ⟨f1, g⟩
    · exact Or.inl (Int32.lt_trans h g)
    · exact Or.inl (by rw [← f1]; exact h)
  · rcases h' with g | ⟨f1, g⟩
    · exact Or.inl (by rw [e1]; exact g)
    · refine Or.inr ⟨e1.trans f1, ?_⟩
      rcases h with h | ⟨e2, h⟩
      · rcases g with g | ⟨f2, g⟩
        · exact Or.inl (Int32.lt_trans h g)
        · exact Or.inl (by rw [← f2]; exact h)
      · rcases g with g | ⟨f2, g⟩
        · exact Or.inl (by rw [e2]; exact g)
        · exact Or.inr ⟨e2.trans f2, Int32.lt_trans h g⟩
theorem rlt_tri (a b : qRw) : rlt a b ∨ a = b ∨ rlt b a := by
  rcases i_tri a.1 b.1 with h | h | h
  · exact Or.inl (Or.inl h)
  · rcases i_tri a.2.1 b.2.1 with g | g | g
    · exact Or.inl (Or.inr ⟨h, Or.inl g⟩)
    · rcases i_tri a.2.2 b.2.2 with k | k | k
      · exact Or.inl (Or.inr ⟨h, Or.inr ⟨g, k⟩⟩)
      · exact Or.inr (Or.inl (Prod.ext h (Prod.ext g k)))
      · exact Or.inr (Or.inr (Or.inr ⟨h.symm, Or.inr ⟨g.symm, k⟩⟩))
    · exact Or.inr (Or.inr (Or.inr ⟨h.symm, Or.inl g⟩))
  · exact Or.inr (Or.inr (Or.inl h))
/-- the row of width w that stands in cell a behind p -/
def rw3 (m : Nat → Nat → Int32) (a p w : Nat) : qRw := (m a p, if 1 < w then m a (p + 1) else 0, if 2 < w then m a (p + 2) else 0)
/-- n different rows in their order, each with how often it is there, in the bag at t -/
def bgF (m : Nat → Nat → Int32) (t w n : Nat) (ρ : Nat → qRw) (κ : Nat → Nat) : Prop := m t 0 = qi w ∧ m t 1 = qi n ∧ n ≤ 64 ∧ (∀ i, i < n → rw3 m (t + 1) (3 * i) w = ρ i ∧ m (t + 2) i = qi (κ i) ∧ 0 < κ i) ∧ ∀ i j, i < j → j < n → rlt (ρ i) (ρ j)
/-- how often each row is there -/
def isC (n : Nat) (ρ : Nat → qRw) (κ : Nat → Nat) (ct : qRw → Nat) : Prop := (∀ i, i < n → ct (ρ i) = κ i) ∧ ∀ r, ¬ ct r = 0 → ∃ i, i < n ∧ ρ i = r
def bgR (m : Nat → Nat → Int32) (t w : Nat) (ct : qRw → Nat) : Prop := ∃ n ρ κ, bgF m t w n ρ κ ∧ isC n ρ κ ct
section BAG
variable {d : Nat} {P : qE → Prop} {X : qH} {sw : Bool} {o : Int64} {e : List Nat} {mem : Nat → Nat → Int32} {t w : Nat}
theorem i_le {x y : Int32} (h : ¬ y ≤ x) : x < y := Int32.not_le.mp h
theorem i_lt {x y : Int32} (h : ¬ x = y) (h' : y ≤ x) : y < x := by
  rcases Int32.le_iff_lt_or_eq.mp h' with g | g
  · exact g
  · exact absurd g.symm h
theorem cBag_compare {k r p nr : Nat} (hX : X.length = 13) (ht : kBag t) (hr : sh r = some (64, List.replicate nr none)) (hw : mem t 0 = qi w) (hw3 : 1 ≤ w ∧ w ≤ 3) (hk : k < 64) (hp : p + w ≤ nr) (hnr : nr ≤ 192)
    (k0 : rw3 mem (t + 1) (3 * k) w = rw3 mem r p w → P (.inl (some (.int 0)), hpo X mem sw o e))
    (kL : rlt (rw3 mem (t + 1) (3 * k) w) (rw3 mem r p w) → P (.inl (some (.int (-1))), hpo X mem sw o e))
    (kG : rlt (rw3 mem r p w) (rw3 mem (t + 1) (3 * k) w) → P (.inl (some (.int 1)), hpo X mem sw o e)) :
    QW d mBag_compare 0 (qen 6 [.ref t, .int (qi k), .ref r, .int (qi p)]) [] (hpo X mem sw o e) P := by
  have ek : ∀ c, qi k * 3 + qi c = qi (3 * k + c) := fun c => by rw [show (3 : Int32) = qi 3 from rfl, qi_mul, qi_add, Nat.mul_comm]
  have lp : ∀ f c w5, qfr w5 → c + f = w → (∀ x, x < c → mem (t + 1) (3 * k + x) = mem r (p + x)) → QW d mBag_compare 3 (lBag_compare_3 (qi k) (qi p) (qi c) w5 t r) [] (hpo X mem sw o e) P := by
    intro f
    induction f with
    | zero =>
      intro c w5 hw5 hc heq
      have hle : mem t 0 ≤ qi c := by rw [hw, show c = w by omega]; exact Int32.le_refl _
      refine bBag_compare_3 hX ht hr hw5 (fun _ => k0 ?_) (fun z => absurd hle z) (fun z => absurd hle z) (fun z => absurd hle z) (fun z => absurd hle z) (fun z => absurd hle z) (fun z => absurd hle z)
      have e0 := heq 0 (by omega)
      refine Prod.ext e0 (Prod.ext ?_ ?_)
      · show (if 1 < w then _ else _) = (if 1 < w then _ else _)
        by_cases h1 : 1 < w
        · rw [if_pos h1, if_pos h1]; exact heq 1 (by omega)
        · rw [if_neg h1, if_neg h1]
      · show (if 2 < w then _ else _) = (if 2 < w then _ else _)
        by_cases h1 : 2 < w
        · rw [if_pos h1, if_pos h1]; exact heq 2 (by omega)
        · rw [if_neg h1, if_neg h1]
    | succ f ih =>
      intro c w5 hw5 hc heq
      have hle : ¬ mem t 0 ≤ qi c := by rw [hw, qi_le (by omega) (by omega)]; omega
      have i1 : inx (qi k * 3 + qi c) 192 := by rw [ek]; exact qi_inx (by omega) (by omega)
      have i2 : inx (qi p + qi c) nr := by rw [qi_add]; exact qi_inx (by omega) (by omega)
      have n1 : Int32.toNatClampNeg (qi k * 3 + qi c) = 3 * k + c := by rw [ek, qi_N (by omega)]
      have n2 : Int32.toNatClampNeg (qi p + qi c) = p + c := by rw [qi_add, qi_N (by omega)]
      have up : mem (t + 1) (3 * k + c) < mem r (p + c) → rlt (rw3 mem (t + 1) (3 * k) w) (rw3 mem r p w) := by
        intro h
        rcases (show c = 0 ∨ c = 1 ∨ c = 2 by omega) with rfl | rfl | rfl
        · exact Or.inl h
        · refine Or.inr ⟨heq 0 (by omega), Or.inl ?_⟩
          show (if 1 < w then _ else _) < (if 1 < w then _ else _)
          rw [if_pos (by omega), if_pos (by omega)]; exact h
        · refine Or.inr ⟨heq 0 (by omega), Or.inr ⟨?_, ?_⟩⟩
          · show (if 1 < w then _ else _) = (if 1 < w then _ else _)
            rw [if_pos (by omega), if_pos (by omega)]; exact heq 1 (by omega)
          · show (if 2 < w then _ else _) < (if 2 < w then _ else _)
            rw [if_pos (by omega), if_pos (by omega)]; exact h
      have dn : mem r (p + c) < mem (t + 1) (3 * k + c) → rlt (rw3 mem r p w) (rw3 mem (t + 1) (3 * k) w) := by
        intro h
        rcases (show c = 0 ∨ c = 1 ∨ c = 2 by omega) with rfl | rfl | rfl
        · exact Or.inl h
        · refine Or.inr ⟨(heq 0 (by omega)).symm, Or.inl ?_⟩
          show (if 1 < w then _ else _) < (if 1 < w then _ else _)
          rw [if_pos (by omega), if_pos (by omega)]; exact h
        · refine Or.inr ⟨(heq 0 (by omega)).symm, Or.inr ⟨?_, ?_⟩⟩
          · show (if 1 < w then _ else _) = (if 1 < w then _ else _)
            rw [if_pos (by omega), if_pos (by omega)]; exact (heq 1 (by omega)).symm
          · show (if 2 < w then _ else _) < (if 2 < w then _ else _)
            rw [if_pos (by omega), if_pos (by omega)]; exact h
      refine bBag_compare_3 hX ht hr hw5 (fun z => absurd z hle) (fun _ => i1) (fun _ => i2) (fun _ z => ?_) (fun _ _ => i2) (fun _ z z' => ?_) (fun _ z z' => ?_)
      · rw [n1, n2] at z
        rw [qi_1]
        refine ih (c + 1) _ (Or.inr (Or.inl ⟨_, rfl⟩)) (by omega) (fun x hx => ?_)
        rcases Nat.lt_or_eq_of_le (Nat.le_of_lt_succ hx) with h' | h'
        · exact heq x h'
        · rw [h']; exact z
      · rw [n1, n2] at z z'
        exact kG (dn (i_lt z z'))
      · rw [n1, n2] at z z'
        exact kL (up (i_le z'))
  exact bBag_compare_0 hX ht hr (lp w 0 .unset (Or.inl rfl) (by omega) (fun x hx => absurd hx (by omega)))
/-- how many rows come before the one behind p -/
theorem cBag_first {n r p nr : Nat} {ρ : Nat → qRw} {κ : Nat → Nat} (hX : X.length = 13) (ht : kBag t) (hr : sh r = some (64, List.replicate nr none)) (hb : bgF mem t w n ρ κ) (hw3 : 1 ≤ w ∧ w ≤ 3) (hp : p + w ≤ nr) (hnr : nr ≤ 192)
    (k : ∀ b, b ≤ n → (∀ i, i < b → rlt (ρ i) (rw3 mem r p w)) → (∀ i, b ≤ i → i < n → ¬ rlt (ρ i) (rw3 mem r p w)) → P (.inl (some (.int (qi b))), hpo X mem sw o e)) :
    QW (d + 1) mBag_firstNotBefore 0 (qen 7 [.ref t, .ref r, .int (qi p)]) [] (hpo X mem sw o e) P := by
  obtain ⟨b1, b2, b3, b4, b5⟩ := hb
  have lp : ∀ f lo hi rd w6, qfr w6 → rd + f = 64 → lo ≤ hi → hi ≤ n → hi - lo ≤ f → (∀ i, i < lo → rlt (ρ i) (rw3 mem r p w)) → (∀ i, hi ≤ i → i < n → ¬ rlt (ρ i) (rw3 mem r p w)) → QW (d + 1) mBag_firstNotBefore 11 (lBag_firstNotBefore_11 (qi p) (qi lo) (qi hi) (qi rd) w6 t r) [] (hpo X mem sw o e) P := by
    intro f
    induction f with
    | zero =>
      intro lo hi rd w6 hw6 h1 h2 h3 h4 h5 h6
      obtain rfl : rd = 64 := by omega
      obtain rfl : lo = hi := by omega
      exact bBag_firstNotBefore_11 hX ht hr hw6 (fun _ => bBag_firstNotBefore_61 hX ht hr hw6 (k lo h3 h5 h6)) (fun z => absurd (by decide) z) (fun z => absurd (by decide) z)
    | succ f ih =>
      intro lo hi rd w6 hw6 h1 h2 h3 h4 h5 h6
      have hrd : ¬ (64 : Int32) ≤ qi rd := fun z => by have := (qi_le (a := 64) (by omega) (by omega)).mp z; omega
      refine bBag_firstNotBefore_11 hX ht hr hw6 (fun z => absurd z hrd) (fun _ z => ?_) (fun _ z => ?_)
      · rw [qi_le (by omega) (by omega)] at z
        obtain rfl : lo = hi := by omega
        exact bBag_firstNotBefore_61 hX ht hr hw6 (k lo h3 h5 h6)
      · rw [qi_le (by omega) (by omega)] at z
        have em : (qi lo + qi hi) / 2 = qi ((lo + hi) / 2) := by rw [qi_add, show (2 : Int32) = qi 2 from rfl, qi_div (by omega) (by omega)]
        rw [em]
        generalize hm : (lo + hi) / 2 = mid
        have hml : lo ≤ mid := by omega
        have hmh : mid < hi := by omega
        have hmr := b4 mid (by omega)
        refine cBag_compare (w := w) hX ht hr b1 hw3 (by omega) hp hnr (fun y => ?_) (fun y => ?_) (fun y => ?_)
        · refine qcl_i (bBag_firstNotBefore_40 hX ht hr (fun _ => ?_) (fun x => absurd (by decide) x))
          rw [qi_1]
          refine ih lo mid (rd + 1) _ (Or.inr (Or.inl ⟨_, rfl⟩)) (by omega) hml (by omega) (by omega) h5 (fun i hi1 hi2 => ?_)
          rw [hmr.1] at y
          intro hz
          rcases Nat.lt_or_eq_of_le hi1 with h' | h'
          · rw [← y] at hz
            exact rlt_ir (rlt_tr hz (b5 mid i h' hi2))
          · subst h'
            rw [← y] at hz
            exact rlt_ir hz
        · refine qcl_i (bBag_firstNotBefore_40 hX ht hr (fun x => absurd x (by decide)) (fun _ => ?_))
          rw [qi_1, qi_1]
          refine ih (mid + 1) hi (rd + 1) _ (Or.inr (Or.inl ⟨_, rfl⟩)) (by omega) (by omega) h3 (by omega) (fun i hi1 => ?_) h6
          rw [hmr.1] at y
          rcases Nat.lt_or_eq_of_le (Nat.le_of_lt_succ hi1) with h' | h'
          · exact rlt_tr (b5 i mid h' (by omega)) y
          · rw [h']; exact y
        · refine qcl_i (bBag_firstNotBefore_40 hX ht hr (fun _ => ?_) (fun x => absurd (by decide) x))
          rw [qi_1]
          refine ih lo mid (rd + 1) _ (Or.inr (Or.inl ⟨_, rfl⟩)) (by omega) hml (by omega) (by omega) h5 (fun i hi1 hi2 => ?_)
          rw [hmr.1] at y
          intro hz
          rcases Nat.lt_or_eq_of_le hi1 with h' | h'
          · exact rlt_ir (rlt_tr hz (rlt_tr y (b5 mid i h' hi2)))
          · subst h'
            exact rlt_ir (rlt_tr hz y)
  refine bBag_firstNotBefore_0 hX ht hr ?_
  rw [b2]
  exact lp 64 0 n 0 .unset (Or.inl rfl) (by omega) (by omega) (Nat.le_refl _) (by omega) (fun i hi => absurd hi (by omega)) (fun i hi1 hi2 => absurd hi2 (by omega))
end BAG
