/-- the reference's block mb is D -/
def mbk (m : Nat → Nat → Int32) (mb : Nat) (D : qD) : Prop := okD D ∧ mb < 15 ∧ m 202 mb = qi (dno D) ∧ m 204 mb = qi (dns D) ∧ m 207 mb = qi (dnc D) ∧ (∀ s, s < dns D → m 205 (4 * mb + s) = qi (dtb D s) ∧ m 194 (dtb D s) = qi (dcl D s) ∧ ∀ c, c < dcl D s → (dky D s c ↔ ¬ m 197 (3 * dtb D s + c) = 0)) ∧
  (∀ i, i < dno D → m 203 (3 * mb + i) = dou D i) ∧ ∀ i, i < dnc D → m 208 (6 * mb + i) = dlf D i ∧ m 209 (6 * mb + i) = drg D i ∧ (dls D i ↔ ¬ m 210 (6 * mb + i) = 0)
def num2 (m : Nat → Nat → Int32) (z : Nat) : Nat → Int32 := fun i => 2000 + m 220 (32 * z + 12 + i)
def grp (m : Nat → Nat → Int32) (z : Nat) : Nat → Int32 := fun a => m 219 (32 * z + a)
/-- the reference's form at side z, as it stands on the way -/
def mst (m m0 : Nat → Nat → Int32) (z mb nn : Nat) (D : qD) : Prop := z < 2 ∧ mbk m0 mb D ∧ (∀ j q, ¬ (219 ≤ j ∧ j < 224) → m j q = m0 j q) ∧ m 221 z = qi nn ∧ nn ≤ 15 ∧ nok nn (num2 m z) ∧ ∀ i, i < nn → uN D (num2 m z i)
def mcs (D : qD) (nn : Nat) (nu g : Nat → Int32) (z : Nat) : Prop := snd D nn nu g ∧ ∀ a, nd D nn a → ∃ b, nd D nn b ∧ g a = qi (32 * z + b)
section MF1
variable {d : Nat} {P : qE → Prop} {X : qH} {sw : Bool} {o : Int64} {e : List Nat} {mem m0 : Nat → Nat → Int32} {z mb nn : Nat} {D : qD} {nu nu' g g' : Nat → Int32}
theorem qf32 (z x : Nat) : (32 : Int32) * qi z + qi x = qi (32 * z + x) := by rw [show (32 : Int32) = qi 32 from rfl, qi_mul, qi_add]
theorem qf32' (z : Nat) : (32 : Int32) * qi z = qi (32 * z) := by rw [show (32 : Int32) = qi 32 from rfl, qi_mul]
theorem q3212 (z x : Nat) : (32 : Int32) * qi z + 12 + qi x = qi (32 * z + 12 + x) := by rw [show (32 : Int32) = qi 32 from rfl, qi_mul, show (12 : Int32) = qi 12 from rfl, qi_add, qi_add]
theorem qf33 (z s c : Nat) : (32 : Int32) * qi z + 3 * qi s + qi c = qi (32 * z + (3 * s + c)) := by rw [show (32 : Int32) = qi 32 from rfl, qi_mul, show (3 : Int32) = qi 3 from rfl, qi_mul, qi_add, qi_add, Nat.add_assoc]
theorem qf4 (b s : Nat) : (4 : Int32) * qi b + qi s = qi (4 * b + s) := by rw [show (4 : Int32) = qi 4 from rfl, qi_mul, qi_add]
theorem mcs_mrg {x y : Nat} (h : mcs D nn nu g z) (hx : nd D nn x) (hy : nd D nn y) (he : eqv D (cdn nu x) (cdn nu y)) : mcs D nn nu (mrg g (g y) (g x)) z := by
  refine ⟨snd_mrg h.1 hy hx (eqv_s he), fun a ha => ?_⟩
  unfold mrg
  by_cases h1 : g a = g x
  · rw [if_pos h1]; exact h.2 y hy
  · rw [if_neg h1]; exact h.2 a ha
theorem mcs_congr (h : mcs D nn nu g z) (hg : ∀ x, nd D nn x → g' x = g x) : mcs D nn nu g' z := by
  refine ⟨fun a b ha hb hab => ?_, fun a ha => ?_⟩
  · rw [hg a ha, hg b hb] at hab
    exact h.1 a b ha hb hab
  · rw [hg a ha]; exact h.2 a ha
theorem nd_mono {n n' a : Nat} (h : nd D n a) (hn : n ≤ n') : nd D n' a := by
  rcases h with h | h
  · exact Or.inl h
  · exact Or.inr ⟨h.1, by omega⟩
theorem nd_new (ok : okD D) {a : Nat} (h : nd D (nn + 1) a) : nd D nn a ∨ a = 12 + nn := by
  rcases h with h | h
  · exact Or.inl (Or.inl h)
  · by_cases e1 : a = 12 + nn
    · exact Or.inr e1
    · exact Or.inl (Or.inr ⟨h.1, by omega⟩)
theorem cdn_old (ok : okD D) {a : Nat} (h : nd D nn a) (hn : ∀ i, i < nn → nu' i = nu i) : cdn nu' a = cdn nu a := by
  have := nd_lt ok h
  unfold cdn
  by_cases h1 : a < 12
  · rw [if_pos h1, if_pos h1]
  · rw [if_neg h1, if_neg h1, hn _ (by omega)]
theorem mcs_new (ok : okD D) (hz : z < 2) (h15 : nn < 15) (h : mcs D nn nu g z) (hn : ∀ i, i < nn → nu' i = nu i) (hg : ∀ a, nd D nn a → g' a = g a) (hg2 : g' (12 + nn) = qi (32 * z + (12 + nn))) : mcs D (nn + 1) nu' g' z := by
  have fresh : ∀ a, nd D nn a → g' a ≠ g' (12 + nn) := by
    intro a ha q
    obtain ⟨b, hb, eb⟩ := h.2 a ha
    have := nd_lt ok hb
    rw [hg a ha, eb, hg2] at q
    have := qi_inj (by omega) (by omega) q
    omega
  refine ⟨fun a b ha hb hab => ?_, fun a ha => ?_⟩
  · rcases nd_new ok ha with ha | ha
    · rcases nd_new ok hb with hb | hb
      · rw [cdn_old ok ha hn, cdn_old ok hb hn]
        rw [hg a ha, hg b hb] at hab
        exact h.1 a b ha hb hab
      · rw [hb] at hab
        exact absurd hab (fresh a ha)
    · rcases nd_new ok hb with hb | hb
      · rw [ha] at hab
        exact absurd hab.symm (fresh b hb)
      · rw [ha, hb]
        exact eqv_r _
  · rcases nd_new ok ha with ha | ha
    · obtain ⟨b, hb, eb⟩ := h.2 a ha
      exact ⟨b, nd_mono hb (by omega), by rw [hg a ha]; exact eb⟩
    · rw [ha, hg2]
      exact ⟨12 + nn, Or.inr ⟨by omega, by omega⟩, rfl⟩
/-- a new number's node -/
def nwn (m : Nat → Nat → Int32) (z nn : Nat) (v : Int32) : Nat → Nat → Int32 := mup (mup (mup m 220 (32 * z + 12 + nn) (v - 2000)) 219 (32 * z + 12 + nn) (qi (32 * z + 12 + nn))) 221 z (qi (nn + 1))
theorem i2k' (v : Int32) : 2000 + (v - 2000) = v := by rw [Int32.add_comm, Int32.sub_add_cancel]
theorem i2s {x v : Int32} : x = v - 2000 ↔ 2000 + x = v := ⟨fun h => by rw [h]; exact i2k' v, fun h => i2k.mp (h.trans (i2k' v).symm)⟩
theorem cMo_node {v : Int32} (hX : X.length = 13) (h : mst mem m0 z mb nn D) (h15 : nn ≤ 14 ∨ ∃ i, i < nn ∧ num2 mem z i = v ∨ isK D v) (hv : uN D v ∨ isK D v)
    (k1 : ∀ a, nd D nn a → cdn (num2 mem z) a = v → P (.inl (some (.int (qi (32 * z + a)))), hpo X mem sw o e)) (k2 : nn ≤ 14 → uN D v → (∀ i, i < nn → ¬ num2 mem z i = v) → P (.inl (some (.int (qi (32 * z + (12 + nn))))), hpo X (nwn mem z nn v) sw o e)) : QW d mMo_node 0 (qen 4 [.ref 193, .int (qi z), .int v]) [] (hpo X mem sw o e) P := by
  obtain ⟨hz, hb, hf, hn, hn15, hok, hu⟩ := h
  have ok := hb.1
  have qf4' := ok.1.2
  have Nz : Int32.toNatClampNeg (qi z) = z := qi_N (by omega)
  have iz : inx (qi z) 2 := qi_inx hz (by omega)
  rcases hv with hv | ⟨s, c, hs, hc, rfl⟩
  · have hge : (1000 : Int32) ≤ v := Int32.le_of_lt hv.1.1
    refine bMo_node_0 hX (fun _ => ?_) (fun w => absurd hge w)
    have lp : ∀ f i, i + f = nn → (∀ j, j < i → ¬ num2 mem z j = v) → QW d mMo_node 16 (lMo_node_16 (qi z) v (qi i)) [] (hpo X mem sw o e) P := by
      intro f
      induction f with
      | zero =>
        intro i hi hno
        obtain rfl : i = nn := by omega
        have h14 : i ≤ 14 := by
          rcases h15 with h15 | ⟨j, ⟨h1, h2⟩ | ⟨s, c, h1, h2, h3⟩⟩
          · exact h15
          · exact absurd h2 (hno j h1)
          · have := (ok.2.2.2.1 s h1).1
            have h4 := hv.1
            rw [h3] at h4
            exact absurd h4 (cN (by omega))
        have e1 : mem 221 (Int32.toNatClampNeg (qi z)) = qi i := by rw [Nz]; exact hn
        have hle : mem 221 (Int32.toNatClampNeg (qi z)) ≤ qi i := by rw [e1]; exact Int32.le_refl _
        have ix : inx ((32 * qi z + 12) + mem 221 (Int32.toNatClampNeg (qi z))) 64 := by rw [e1, q3212]; exact qi_inx (by omega) (by omega)
        refine bMo_node_16 hX iz (fun _ => iz) (fun _ => ix) (fun _ => ix) (fun _ => iz) (fun _ => iz) (fun _ => ?_) (fun w => absurd hle w) (fun w => absurd hle w) (fun w => absurd hle w)
        have e2 : ∀ a b c, (mup (mup mem 220 a (v - 2000)) 219 b c) 221 z = qi i := fun a b c => by rw [mup_ce (by omega), mup_ce (by omega)]; exact hn
        rw [e1, q3212, qi_N (by omega), Nz, e2, qi_1]
        have := k2 h14 hv hno
        rw [show 32 * z + (12 + i) = 32 * z + 12 + i by omega] at this
        exact this
      | succ f ih =>
        intro i hi hno
        have e1 : mem 221 (Int32.toNatClampNeg (qi z)) = qi nn := by rw [Nz]; exact hn
        have hle : ¬ mem 221 (Int32.toNatClampNeg (qi z)) ≤ qi i := by rw [e1]; exact fun w => absurd ((qi_le (by omega) (by omega)).mp w) (by omega)
        have e2 : (32 * qi z + 12) + qi i = qi (32 * z + 12 + i) := q3212 z i
        refine bMo_node_16 hX iz (fun w => absurd w hle) (fun w => absurd w hle) (fun w => absurd w hle) (fun w => absurd w hle) (fun w => absurd w hle) (fun w => absurd w hle) (fun _ => by rw [e2]; exact qi_inx (by omega) (by omega)) (fun _ w => ?_) (fun _ w => ?_)
        · rw [e2, qi_N (by omega), i2s] at w
          rw [qi_1]
          refine ih (i + 1) (by omega) (fun j hj => ?_)
          by_cases ej : j = i
          · rw [ej]; exact w
          · exact hno j (by omega)
        · rw [e2, qi_N (by omega), i2s] at w
          rw [e2, show 32 * z + 12 + i = 32 * z + (12 + i) by omega]
          have n1 := nd_num (D := D) (nu := num2 mem z) (show i < nn by omega)
          exact k1 _ n1.1 (by rw [n1.2]; exact w)
    exact lp nn 0 (by omega) (fun j hj => absurd hj (by omega))
  · have r3 := (ok.2.2.2.1 s hs).1
    have hlt : ¬ (1000 : Int32) ≤ cc s c := by
      unfold cc
      exact fun w => absurd ((qi_le (a := 1000) (by omega) (by omega)).mp w) (by omega)
    refine bMo_node_0 hX (fun w => absurd w hlt) (fun _ => ?_)
    have n1 := nd_col ok (nn := nn) (nu := num2 mem z) hs hc
    have : (32 : Int32) * qi z + cc s c = qi (32 * z + (3 * s + c)) := by unfold cc; exact qf32 z _
    rw [this]
    exact k1 _ n1.1 n1.2
theorem cMo_unite {x y : Nat} (hX : X.length = 13) (hz : z < 2) (hx : x < 32) (hy : y < 32) (k : ∀ m', (∀ a, a < 32 → grp m' z a = mrg (grp mem z) (grp mem z y) (grp mem z x) a) → (∀ j q, ¬ (j = 219 ∧ 32 * z ≤ q ∧ q < 32 * z + 32) → m' j q = mem j q) → P (.inl none, hpo X m' sw o e)) : QW d mMo_unite 0 (qen 7 [.ref 193, .int (qi z), .int (qi (32 * z + x)), .int (qi (32 * z + y))]) [] (hpo X mem sw o e) P := by
  refine bMo_unite_0 hX (qi_inx (by omega) (by omega)) (qi_inx (by omega) (by omega)) ?_
  rw [qi_N (by omega), qi_N (by omega), qf32']
  have lp : ∀ f i m, i + f = 32 → (∀ a, a < i → grp m z a = mrg (grp mem z) (grp mem z y) (grp mem z x) a) → (∀ a, i ≤ a → grp m z a = grp mem z a) → (∀ j q, ¬ (j = 219 ∧ 32 * z ≤ q ∧ q < 32 * z + 32) → m j q = mem j q) → QW d mMo_unite 22 (lMo_unite_22 (qi z) (qi (32 * z + x)) (qi (32 * z + y)) (mem 219 (32 * z + x)) (mem 219 (32 * z + y)) (qi (32 * z + i))) [] (hpo X m sw o e) P := by
    intro f
    induction f with
    | zero =>
      intro i m hi h1 h2 hfr
      obtain rfl : i = 32 := by omega
      have hle : (32 * qi z + 32 : Int32) ≤ qi (32 * z + 32) := by rw [show (32 * qi z + 32 : Int32) = qi (32 * z + 32) from qf32 z 32]; exact Int32.le_refl _
      exact bMo_unite_22 hX (fun _ => k m h1 hfr) (fun w => absurd hle w) (fun w => absurd hle w) (fun w => absurd hle w) (fun w => absurd hle w)
    | succ f ih =>
      intro i m hi h1 h2 hfr
      have hle : ¬ (32 * qi z + 32 : Int32) ≤ qi (32 * z + i) := by rw [show (32 * qi z + 32 : Int32) = qi (32 * z + 32) from qf32 z 32]; exact fun w => absurd ((qi_le (by omega) (by omega)).mp w) (by omega)
      have ix : inx (qi (32 * z + i)) 64 := qi_inx (by omega) (by omega)
      have Ni : Int32.toNatClampNeg (qi (32 * z + i)) = 32 * z + i := qi_N (by omega)
      have gi : m 219 (32 * z + i) = mem 219 (32 * z + i) := h2 i (Nat.le_refl _)
      have tl : ∀ v, v = mrg (grp mem z) (grp mem z y) (grp mem z x) i → QW d mMo_unite 64 (lMo_unite_64 (qi z) (qi (32 * z + x)) (qi (32 * z + y)) (mem 219 (32 * z + x)) (mem 219 (32 * z + y)) (qi (32 * z + i))) [.int v, .int (qi (32 * z + i)), .ref 219] (hpo X m sw o e) P := by
        intro v hv
        refine bMo_unite_64 hX ix ?_
        rw [Ni, qi_1, show 32 * z + i + 1 = 32 * z + (i + 1) by omega]
        refine ih (i + 1) _ (by omega) (fun a ha => ?_) (fun a ha => ?_) (fun j q hj => ?_)
        · unfold grp
          by_cases ea : a = i
          · rw [ea, mup_at]; exact hv
          · rw [mup_sl (by omega)]; exact h1 a (by omega)
        · unfold grp
          rw [mup_sl (by omega)]
          exact h2 a (by omega)
        · rw [mup_q, if_neg (by omega)]
          exact hfr j q hj
      refine bMo_unite_22 hX (fun w => absurd w hle) (fun _ => ix) (fun _ _ => ix) (fun _ w => ?_) (fun _ w => ?_)
      · rw [Ni, gi] at w
        rw [Ni, gi]
        refine tl _ ?_
        unfold mrg grp
        rw [if_neg w]
      · rw [Ni, gi] at w
        refine tl _ ?_
        unfold mrg grp
        rw [if_pos w]
  exact lp 32 0 mem (by omega) (fun a ha => absurd ha (by omega)) (fun a _ => rfl) (fun _ _ _ => rfl)
theorem cMo_areOne {s r : Nat} (hX : X.length = 13) (h : mst mem m0 z mb nn D) (hs : s < dns D) (hr : r < dns D) (k1 : on1 D (grp mem z) s r → P (.inl (some (.int 1)), hpo X mem sw o e)) (k0 : ¬ on1 D (grp mem z) s r → P (.inl (some (.int 0)), hpo X mem sw o e)) : QW d mMo_areOne 0 (qen 8 [.ref 193, .int (qi z), .int (qi mb), .int (qi s), .int (qi r)]) [] (hpo X mem sw o e) P := by
  obtain ⟨hz, hb, hf, hn, hn15, hok, hu⟩ := h
  have ok := hb.1
  have hmb := hb.2.1
  have qf4' := ok.1.2
  have ts := hb.2.2.2.2.2.1 s hs
  have tr := hb.2.2.2.2.2.1 r hr
  have rs := ok.2.2.2.1 s hs
  have rr := ok.2.2.2.1 r hr
  have is' : inx (4 * qi mb + qi s) 60 := by rw [qf4]; exact qi_inx (by omega) (by omega)
  have ir' : inx (4 * qi mb + qi r) 60 := by rw [qf4]; exact qi_inx (by omega) (by omega)
  refine bMo_areOne_0 hX is' ?_
  rw [qf4, qi_N (by omega), hf _ _ (by omega), ts.1]
  have it : inx (qi (dtb D s)) 4 := qi_inx (by omega) (by omega)
  have Nt : Int32.toNatClampNeg (qi (dtb D s)) = dtb D s := qi_N (by omega)
  have e1 : mem 194 (Int32.toNatClampNeg (qi (dtb D s))) = qi (dcl D s) := by rw [Nt, hf _ _ (by omega)]; exact ts.2.1
  have lp : ∀ f c (a : Int32), c + f = dcl D s → b01 a → (a = 1 ↔ dtb D s = dtb D r ∧ ∃ c', c' < c ∧ dky D s c' ∧ grp mem z (3 * s + c') = grp mem z (3 * r + c')) → QW d mMo_areOne 18 (lMo_areOne_18 (qi z) (qi mb) (qi s) (qi r) a (qi (dtb D s)) (qi c)) [] (hpo X mem sw o e) P := by
    intro f
    induction f with
    | zero =>
      intro c a hc ha hiff
      have hle : mem 194 (Int32.toNatClampNeg (qi (dtb D s))) ≤ qi c := by rw [e1]; exact (qi_le (by omega) (by omega)).mpr (by omega)
      refine bMo_areOne_18 hX it (fun _ => by rcases ha with rfl | rfl <;> rfl) (fun _ => ?_) (fun w => absurd hle w) (fun w => absurd hle w) (fun w => absurd hle w) (fun w => absurd hle w) (fun w => absurd hle w) (fun w => absurd hle w) (fun w => absurd hle w) (fun w => absurd hle w) (fun w => absurd hle w)
      have hc' : c = dcl D s := by omega
      subst hc'
      rcases ha with rfl | rfl
      · exact k0 (fun w => absurd (hiff.mpr w) (by decide))
      · exact k1 (hiff.mp rfl)
    | succ f ih =>
      intro c a hc ha hiff
      have hle : ¬ mem 194 (Int32.toNatClampNeg (qi (dtb D s))) ≤ qi c := by rw [e1]; exact fun w => absurd ((qi_le (by omega) (by omega)).mp w) (by omega)
      have nxt : ∀ b : Int32, b01 b → (b = 1 ↔ dtb D s = dtb D r ∧ ∃ c', c' < c + 1 ∧ dky D s c' ∧ grp mem z (3 * s + c') = grp mem z (3 * r + c')) → QW d mMo_areOne 107 (lMo_areOne_107 (qi z) (qi mb) (qi s) (qi r) a (qi (dtb D s)) (qi c)) [.int b] (hpo X mem sw o e) P := by
        intro b hb1 hb2
        refine bMo_areOne_107 hX ?_
        rw [qi_1]
        exact ih (c + 1) b (by omega) hb1 hb2
      have yes : (dtb D s = dtb D r ∧ ∃ c', c' < c + 1 ∧ dky D s c' ∧ grp mem z (3 * s + c') = grp mem z (3 * r + c')) → QW d mMo_areOne 102 (lMo_areOne_102 (qi z) (qi mb) (qi s) (qi r) a (qi (dtb D s)) (qi c)) [] (hpo X mem sw o e) P := fun w => bMo_areOne_102 hX (nxt 1 (Or.inr rfl) ⟨fun _ => w, fun _ => rfl⟩)
      have no : a = 0 → ¬ (dtb D s = dtb D r ∧ dky D s c ∧ grp mem z (3 * s + c) = grp mem z (3 * r + c)) → QW d mMo_areOne 106 (lMo_areOne_106 (qi z) (qi mb) (qi s) (qi r) a (qi (dtb D s)) (qi c)) [] (hpo X mem sw o e) P := by
        intro ha0 w
        refine bMo_areOne_106 hX (nxt 0 (Or.inl rfl) ⟨fun q => absurd q (by decide), ?_⟩)
        rintro ⟨t1, c', t2, t3, t4⟩
        exfalso
        by_cases ec : c' = c
        · subst ec
          exact w ⟨t1, t3, t4⟩
        · have := hiff.mpr ⟨t1, c', by omega, t3, t4⟩
          rw [ha0] at this
          exact absurd this (by decide)
      have e3 : (3 : Int32) * qi (dtb D s) + qi c = qi (3 * dtb D s + c) := by rw [show (3 : Int32) = qi 3 from rfl, qi_mul, qi_add]
      have er : mem 205 (Int32.toNatClampNeg (4 * qi mb + qi r)) = qi (dtb D r) := by rw [qf4, qi_N (by omega), hf _ _ (by omega)]; exact tr.1
      have ek : mem 197 (Int32.toNatClampNeg (3 * qi (dtb D s) + qi c)) = m0 197 (3 * dtb D s + c) := by rw [e3, qi_N (by omega), hf _ _ (by omega)]
      have eg1 : mem 219 (Int32.toNatClampNeg (32 * qi z + 3 * qi s + qi c)) = grp mem z (3 * s + c) := by rw [qf33, qi_N (by omega)]; rfl
      have eg2 : mem 219 (Int32.toNatClampNeg (32 * qi z + 3 * qi r + qi c)) = grp mem z (3 * r + c) := by rw [qf33, qi_N (by omega)]; rfl
      have key := ts.2.2 c (by omega)
      refine bMo_areOne_18 hX it (fun w => absurd w hle) (fun w => absurd w hle) (fun _ w => yes ?_) (fun _ _ => ir') (fun _ w1 w2 => no w1 (fun q => w2 ?_)) (fun _ _ _ => by rw [e3]; exact qi_inx (by omega) (by omega)) (fun _ w1 _ w3 => no w1 (fun q => key.mp q.2.1 (by rw [ek] at w3; exact w3))) (fun _ _ _ _ => by rw [qf33]; exact qi_inx (by omega) (by omega)) (fun _ _ _ _ => by rw [qf33]; exact qi_inx (by omega) (by omega)) (fun _ w1 _ _ w4 => no w1 (fun q => w4 (by rw [eg1, eg2]; exact q.2.2))) (fun _ w1 w2 w3 w4 => yes ?_)
      · have : a = 1 := by
          rcases ha with ha | ha
          · exact absurd ha w
          · exact ha
        obtain ⟨t1, c', t2, t3⟩ := hiff.mp this
        exact ⟨t1, c', by omega, t3⟩
      · rw [er, q.1]
      · rw [er] at w2
        rw [ek] at w3
        rw [eg1, eg2] at w4
        exact ⟨(qi_inj (by omega) (by omega) w2).symm, c, by omega, key.mpr w3, w4⟩
  exact lp (dcl D s) 0 0 (by omega) (Or.inl rfl) ⟨fun w => absurd w (by decide), fun ⟨_, c', w, _⟩ => absurd w (by omega)⟩
theorem cMo_numberOf {a : Nat} (hX : X.length = 13) (hz : z < 2) (hn : mem 221 z = qi nn) (h15 : nn ≤ 15) (ha : a < 32) (k1 : ∀ i, i < nn → grp mem z (12 + i) = grp mem z a → (∀ j, i < j → j < nn → ¬ grp mem z (12 + j) = grp mem z a) → P (.inl (some (.int (qi (32 * z + 12 + i)))), hpo X mem sw o e)) (k0 : (∀ i, i < nn → ¬ grp mem z (12 + i) = grp mem z a) → P (.inl (some (.int (-1))), hpo X mem sw o e)) : QW d mMo_numberOf 0 (qen 5 [.ref 193, .int (qi z), .int (qi (32 * z + a))]) [] (hpo X mem sw o e) P := by
  have Nz : Int32.toNatClampNeg (qi z) = z := qi_N (by omega)
  have iz : inx (qi z) 2 := qi_inx hz (by omega)
  have e1 : (32 * qi z + 12) + mem 221 (Int32.toNatClampNeg (qi z)) = qi (32 * z + 12 + nn) := by rw [Nz, hn, q3212]
  have lp : ∀ f i (x : Int32), i + f = nn → ((x = -1 ∧ ∀ j, j < i → ¬ grp mem z (12 + j) = grp mem z a) ∨ ∃ y, y < i ∧ x = qi (32 * z + 12 + y) ∧ grp mem z (12 + y) = grp mem z a ∧ ∀ j, y < j → j < i → ¬ grp mem z (12 + j) = grp mem z a) → QW d mMo_numberOf 11 (lMo_numberOf_11 (qi z) (qi (32 * z + a)) x (qi (32 * z + 12 + i))) [] (hpo X mem sw o e) P := by
    intro f
    induction f with
    | zero =>
      intro i x hi hx
      obtain rfl : i = nn := by omega
      have hle : (32 * qi z + 12) + mem 221 (Int32.toNatClampNeg (qi z)) ≤ qi (32 * z + 12 + i) := by rw [e1]; exact Int32.le_refl _
      refine bMo_numberOf_11 hX iz (fun _ => ?_) (fun w => absurd hle w) (fun w => absurd hle w) (fun w => absurd hle w) (fun w => absurd hle w)
      rcases hx with ⟨rfl, h1⟩ | ⟨y, h1, rfl, h2, h3⟩
      · exact k0 h1
      · exact k1 y h1 h2 h3
    | succ f ih =>
      intro i x hi hx
      have hle : ¬ (32 * qi z + 12) + mem 221 (Int32.toNatClampNeg (qi z)) ≤ qi (32 * z + 12 + i) := by rw [e1]; exact fun w => absurd ((qi_le (by omega) (by omega)).mp w) (by omega)
      have Ni : Int32.toNatClampNeg (qi (32 * z + 12 + i)) = 32 * z + (12 + i) := by rw [qi_N (by omega)]; omega
      have Na : Int32.toNatClampNeg (qi (32 * z + a)) = 32 * z + a := qi_N (by omega)
      refine bMo_numberOf_11 hX iz (fun w => absurd w hle) (fun _ => qi_inx (by omega) (by omega)) (fun _ => qi_inx (by omega) (by omega)) (fun _ w => bMo_numberOf_52 hX ?_) (fun _ w => bMo_numberOf_52 hX ?_)
      · rw [Ni, Na] at w
        rw [qi_1, show 32 * z + 12 + i + 1 = 32 * z + 12 + (i + 1) by omega]
        refine ih (i + 1) x (by omega) ?_
        rcases hx with ⟨rfl, h1⟩ | ⟨y, h1, rfl, h2, h3⟩
        · refine Or.inl ⟨rfl, fun j hj => ?_⟩
          by_cases ej : j = i
          · rw [ej]; exact w
          · exact h1 j (by omega)
        · refine Or.inr ⟨y, by omega, rfl, h2, fun j hj hj2 => ?_⟩
          by_cases ej : j = i
          · rw [ej]; exact w
          · exact h3 j hj (by omega)
      · rw [Ni, Na] at w
        rw [qi_1, show 32 * z + 12 + i + 1 = 32 * z + 12 + (i + 1) by omega]
        exact ih (i + 1) _ (by omega) (Or.inr ⟨i, by omega, rfl, w, fun j hj hj2 => absurd hj2 (by omega)⟩)
  have := lp nn 0 (-1) (by omega) (Or.inl ⟨rfl, fun j hj => absurd hj (by omega)⟩)
  rw [show 32 * z + 12 + 0 = 32 * z + 12 by omega] at this
  refine bMo_numberOf_0 hX ?_
  rw [show (32 * qi z + 12 : Int32) = qi (32 * z + 12) from qf32 z 12]
  exact this
theorem cMo_leftOver {st : Nat → Nat} (hX : X.length = 13) (hz : z < 2) (hb : mbk m0 mb D) (hf : ∀ j q, ¬ (219 ≤ j ∧ j < 224) → mem j q = m0 j q) (hst : ∀ s, s < dns D → mem 222 (4 * z + s) = qi (st s) ∧ (st s = s ↔ std D s) ∧ st s ≤ s) (k : P (.inl (some (.int (qi (ctS D (dns D))))), hpo X mem sw o e)) : QW d mMo_leftOver 0 (qen 5 [.ref 193, .int (qi z), .int (qi mb)]) [] (hpo X mem sw o e) P := by
  have ok := hb.1
  have hmb := hb.2.1
  have qf4' := ok.1.2
  have imb : inx (qi mb) 15 := qi_inx hmb (by omega)
  have e1 : mem 204 (Int32.toNatClampNeg (qi mb)) = qi (dns D) := by rw [qi_N (by omega), hf _ _ (by omega)]; exact hb.2.2.2.1
  have lp : ∀ f s, s + f = dns D → QW d mMo_leftOver 5 (lMo_leftOver_5 (qi z) (qi mb) (qi (ctS D s)) (qi s)) [] (hpo X mem sw o e) P := by
    intro f
    induction f with
    | zero =>
      intro s hs
      obtain rfl : s = dns D := by omega
      have hle : mem 204 (Int32.toNatClampNeg (qi mb)) ≤ qi (dns D) := by rw [e1]; exact Int32.le_refl _
      exact bMo_leftOver_5 hX imb (fun _ => k) (fun w => absurd hle w) (fun w => absurd hle w) (fun w => absurd hle w)
    | succ f ih =>
      intro s hs
      have hle : ¬ mem 204 (Int32.toNatClampNeg (qi mb)) ≤ qi s := by rw [e1]; exact fun w => absurd ((qi_le (by omega) (by omega)).mp w) (by omega)
      obtain ⟨t1, t2, t3⟩ := hst s (by omega)
      have es : mem 222 (Int32.toNatClampNeg (4 * qi z + qi s)) = qi (st s) := by rw [qf4, qi_N (by omega)]; exact t1
      have hc := ctS_le D s
      refine bMo_leftOver_5 hX imb (fun w => absurd w hle) (fun _ => by rw [qf4]; exact qi_inx (by omega) (by omega)) (fun _ w => bMo_leftOver_38 hX ?_) (fun _ w => bMo_leftOver_38 hX ?_)
      · rw [es] at w
        have hn : ¬ std D s := fun q => w (by rw [t2.mpr q])
        have := ih (s + 1) (by omega)
        have e2 : ctS D (s + 1) = ctS D s := by
          show ctS D s + ind (std D s) = _
          rw [ind_f hn, Nat.add_zero]
        rw [e2] at this
        rw [qi_1, show (0 : Int32) = qi 0 from rfl, qi_add, Nat.add_zero]
        exact this
      · rw [es] at w
        have hn : std D s := t2.mp (qi_inj (by omega) (by omega) w)
        have := ih (s + 1) (by omega)
        have e2 : ctS D (s + 1) = ctS D s + 1 := by
          show ctS D s + ind (std D s) = _
          rw [ind_t hn]
        rw [e2] at this
        rw [qi_1, qi_1]
        exact this
  exact bMo_leftOver_0 hX (lp (dns D) 0 (by omega))
end MF1
