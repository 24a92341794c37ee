def Alk (D E : qD) (f1 f2 : Int32) : Prop := f1 = f2 ∧ dno D = dno E ∧ ((Emp D ∧ Emp E) ∨ (¬ Emp D ∧ ¬ Emp E ∧ ctS D (dns D) = ctS E (dns E) ∧ ∃ p, prg D E p ∧ ftp D E p))
noncomputable def pmp (l1 : Nat) (u1 u2 q : Nat → Nat) (s : Nat) : Nat := @dite _ (∃ i, i < l1 ∧ u1 i = s) (Classical.propDecidable _) (fun h => u2 (q (Classical.choose h))) (fun _ => 0)
def GI (D E : qD) (l1 l2 : Nat) (u1 u2 q : Nat → Nat) : Prop := (∀ i, i < l1 → q i < l2 ∧ dtb D (u1 i) = dtb E (u2 (q i))) ∧ (∀ i j, i < l1 → j < l1 → q i = q j → i = j) ∧ ftp D E (pmp l1 u1 u2 q)
section PG2
variable {d : Nat} {P : qE → Prop} {X : qH} {sw : Bool} {o : Int64} {e : List Nat} {mem m0 : Nat → Nat → Int32} {D E : qD} {r1 r2 n1 n2 l1 l2 : Nat} {u1 u2 : Nat → Nat} {f1 f2 : Int32}
theorem lft_inj {n lc : Nat} {l : Nat → Nat} (h : lft D n lc l) {i j : Nat} (hi : i < lc) (hj : j < lc) (hij : l i = l j) : i = j := by
  rcases Nat.lt_trichotomy i j with q | q | q
  · have := h.2.2.1 i j q hj; omega
  · exact q
  · have := h.2.2.1 j i q hi; omega
theorem pmp_at {q : Nat → Nat} {n : Nat} (h : lft D n l1 u1) {i : Nat} (hi : i < l1) : pmp l1 u1 u2 q (u1 i) = u2 (q i) := by
  have hx : ∃ j, j < l1 ∧ u1 j = u1 i := ⟨i, hi, rfl⟩
  unfold pmp
  rw [dif_pos hx]
  have := Classical.choose_spec hx
  rw [lft_inj h this.1 hi this.2]
theorem pmp_eq {q q' : Nat → Nat} (h : ∀ i, i < l1 → q i = q' i) : pmp l1 u1 u2 q = pmp l1 u1 u2 q' := by
  funext s
  unfold pmp
  by_cases hx : ∃ j, j < l1 ∧ u1 j = s
  · rw [dif_pos hx, dif_pos hx, h _ (Classical.choose_spec hx).1]
  · rw [dif_neg hx, dif_neg hx]
/-- what the pairing says depends on the sources that stand alone -/
theorem ftp_eq {p p' : Nat → Nat} (h : ∀ s, std D s → p s = p' s) (hf : ftp D E p) : ftp D E p' := by
  have g : ∀ x y, gw D E p x y → gw D E p' x y := by
    rintro x y (q | ⟨q1, q2, s, c, q3, q4, q5, q6⟩)
    · exact Or.inl q
    · exact Or.inr ⟨q1, q2, s, c, q3, q4, q5, by rw [← h s q3]; exact q6⟩
  refine ⟨fun s c hs hc => ?_, fun k hk => g _ _ (hf.2.1 k hk), fun i hi ho => ?_, fun j hj ho => ?_⟩
  · obtain ⟨a1, a2⟩ := hf.1 s c hs hc
    rw [← h s hs]
    refine ⟨a1, fun s' c' hs' hc' => ?_⟩
    rw [← h s' hs']
    exact a2 s' c' hs' hc'
  · obtain ⟨j, a1, a2, a3⟩ := hf.2.2.1 i hi ho
    exact ⟨j, a1, a2, g _ _ a3.1, g _ _ a3.2⟩
  · obtain ⟨i, a1, a2, a3⟩ := hf.2.2.2 j hj ho
    exact ⟨i, a1, a2, g _ _ a3.1, g _ _ a3.2⟩
theorem GI_iff (okA : okD D) (hA : lft D (dns D) l1 u1) (hB : lft E (dns E) l2 u2) : (∃ q, GI D E l1 l2 u1 u2 q) ↔ ∃ p, prg D E p ∧ ftp D E p := by
  constructor
  · rintro ⟨q, h1, h2, h3⟩
    refine ⟨_, ⟨fun s hs => ?_, fun s t hs ht hst => ?_⟩, h3⟩
    · obtain ⟨i, hi, rfl⟩ := hA.2.2.2 s hs.1 hs
      rw [pmp_at hA hi]
      exact ⟨(hB.2.1 _ (h1 i hi).1).1, (h1 i hi).2⟩
    · obtain ⟨i, hi, rfl⟩ := hA.2.2.2 s hs.1 hs
      obtain ⟨j, hj, rfl⟩ := hA.2.2.2 t ht.1 ht
      rw [pmp_at hA hi, pmp_at hA hj] at hst
      rw [h2 i j hi hj (lft_inj hB (h1 i hi).1 (h1 j hj).1 hst)]
  · rintro ⟨p, ⟨h1, h2⟩, h3⟩
    have hx : ∀ i, ∃ j, i < l1 → j < l2 ∧ u2 j = p (u1 i) := by
      intro i
      by_cases hi : i < l1
      · have hs := (hA.2.1 i hi).1
        have := (h1 _ hs).1
        obtain ⟨j, hj, ej⟩ := hB.2.2.2 _ this.1 this
        exact ⟨j, fun _ => ⟨hj, ej⟩⟩
      · exact ⟨0, fun z => absurd z hi⟩
    obtain ⟨q, hq⟩ := Classical.axiomOfChoice hx
    refine ⟨q, fun i hi => ⟨(hq i hi).1, ?_⟩, fun i j hi hj hij => ?_, ftp_eq (fun s hs => ?_) h3⟩
    · rw [(hq i hi).2]
      exact (h1 _ (hA.2.1 i hi).1).2
    · have : p (u1 i) = p (u1 j) := by rw [← (hq i hi).2, ← (hq j hj).2, hij]
      exact lft_inj hA hi hj (h2 _ _ (hA.2.1 i hi).1 (hA.2.1 j hj).1 this)
    · obtain ⟨i, hi, rfl⟩ := hA.2.2.2 s hs.1 hs
      rw [pmp_at hA hi, (hq i hi).2]
theorem gw_eq {p : Nat → Nat} {x x' y y' : Int32} (h1 : eqv D x x') (h2 : eqv E y y') (h : gw D E p x y) : gw D E p x' y' := by
  have n1 : ∀ v, num D x' v → num D x v := fun v q => ⟨q.1, eqv_t h1 q.2⟩
  have n2 : ∀ v, num E y' v → num E y v := fun v q => ⟨q.1, eqv_t h2 q.2⟩
  rcases h with ⟨v, a1, a2⟩ | ⟨a1, a2, s, c, a3, a4, a5, a6⟩
  · exact Or.inl ⟨v, ⟨a1.1, eqv_t (eqv_s h1) a1.2⟩, ⟨a2.1, eqv_t (eqv_s h2) a2.2⟩⟩
  · exact Or.inr ⟨fun v q => a1 v (n1 v q), fun v q => a2 v (n2 v q), s, c, a3, a4, eqv_t a5 h1, eqv_t a6 h2⟩
theorem cPg_outputsFit {q p : Nat → Nat} (hX : X.length = 13) (k1 : kNf r1) (k2 : kNf r2) (h : pst mem m0 D E r1 r2 n1 n2 l1 l2 u1 u2 f1 f2) (hp : pok mem D E l1 l2 u1 u2 q p) (hcf : cft D E p) (hno : dno D = dno E)
    (kt : oft D E p → P (.inl (some (.int 1)), hpo X mem sw o e)) (kf : ¬ oft D E p → P (.inl (some (.int 0)), hpo X mem sw o e)) : QW (d + 2) mPg_outputsFit 0 (qen 4 [.ref 190, .ref r1, .ref r2]) [] (hpo X mem sw o e) P := by
  have h' := h
  obtain ⟨hr, hf, hA, hB, nA, nB, hcat⟩ := h'
  have okA := hA.1
  have q3 := okA.2.2.1.2
  have oA := hA.2.2.2.2.2.2.2.2.1
  have oB := hB.2.2.2.2.2.2.2.2.1
  have h2 : mem r1 2 = qi (dno D) := by rw [hf _ _ (by omega) (by omega)]; exact hA.2.2.2.2.2.2.2.1
  have lp : ∀ f i, i + f = dno D → (∀ x, x < i → gw D E p (dou D x) (dou E x)) → QW (d + 2) mPg_outputsFit 2 (lPg_outputsFit_2 (qi i) r1 r2) [] (hpo X mem sw o e) P := by
    intro f
    induction f with
    | zero =>
      intro i hi hall
      have hle : mem r1 2 ≤ qi i := by rw [h2]; exact (qi_le (by omega) (by omega)).mpr (by omega)
      exact bPg_outputsFit_2 hX k1 k2 (fun _ => kt (fun x hx => hall x (by omega))) (fun z => absurd hle z) (fun z => absurd hle z) (fun z => absurd hle z)
    | succ f ih =>
      intro i hi hall
      have hle : ¬ mem r1 2 ≤ qi i := by rw [h2]; exact fun z => absurd ((qi_le (by omega) (by omega)).mp z) (by omega)
      have hix : inx (qi i) 3 := qi_inx (by omega) (by omega)
      refine bPg_outputsFit_2 hX k1 k2 (fun z => absurd z hle) (fun _ => hix) (fun _ => hix) (fun _ => ?_)
      obtain ⟨a, ha, ea, ma⟩ := oA i (by omega)
      obtain ⟨b, hb, eb, mb⟩ := oB i (by omega)
      rw [qi_N (by omega), hf _ _ (by omega) (by omega), hf _ _ (by omega) (by omega), ma, mb]
      refine cPg_arePaired hX k1 k2 h hp hcf ha hb (fun w => qcl_i (bPg_outputsFit_28 hX k1 k2 (fun _ => ?_) (fun z => absurd z (by decide)))) (fun w => qcl_i (bPg_outputsFit_28 hX k1 k2 (fun z => absurd rfl z) (fun _ => kf (fun z => w ?_))))
      · rw [ea, eb] at w
        rw [qi_1]
        refine ih (i + 1) (by omega) (fun x hx => ?_)
        by_cases ex : x = i
        · rw [ex]; exact w
        · exact hall x (by omega)
      · rw [ea, eb]
        exact z i (by omega)
  exact bPg_outputsFit_0 hX k1 k2 (lp (dno D) 0 (by omega) (fun x hx => absurd hx (by omega)))
/-- entry x of the form's list is condition i -/
def cor (D : qD) (m : Nat → Nat → Int32) (r nn x i : Nat) : Prop := ∃ a b, i < dnc D ∧ opn D i ∧ nd D nn a ∧ nd D nn b ∧ cdn (nuv m r) a = dlf D i ∧ cdn (nuv m r) b = drg D i ∧ m (r + 2) x = m (r + 8) a ∧ m (r + 3) x = m (r + 8) b
theorem cor_u {r nn x i i' : Nat} {m : Nat → Nat → Int32} (hf : frm D nn (nuv m r) (m (r + 8))) (h : cor D m r nn x i) (h' : cor D m r nn x i') : eqv D (dlf D i) (dlf D i') ∧ eqv D (drg D i) (drg D i') := by
  obtain ⟨a, b, -, -, h1, h2, h3, h4, h5, h6⟩ := h
  obtain ⟨a', b', -, -, g1, g2, g3, g4, g5, g6⟩ := h'
  rw [← h3, ← h4, ← g3, ← g4]
  exact ⟨(hf.2.2 _ _ h1 g1).mp (h5.symm.trans g5), (hf.2.2 _ _ h2 g2).mp (h6.symm.trans g6)⟩
theorem cPg_isSameLess {q p : Nat → Nat} {x y i j : Nat} (hX : X.length = 13) (k1 : kNf r1) (k2 : kNf r2) (h : pst mem m0 D E r1 r2 n1 n2 l1 l2 u1 u2 f1 f2) (hp : pok mem D E l1 l2 u1 u2 q p) (hcf : cft D E p) (hx : x < 6) (hy : y < 6) (hi : cor D m0 r1 n1 x i) (hj : cor E m0 r2 n2 y j)
    (kt : slz D E p i j → P (.inl (some (.int 1)), hpo X mem sw o e)) (kf : ¬ slz D E p i j → P (.inl (some (.int 0)), hpo X mem sw o e)) : QW (d + 2) mPg_isSameLess 0 (qen 5 [.ref 190, .int (qi x), .int (qi y), .ref r1, .ref r2]) [] (hpo X mem sw o e) P := by
  have h' := h
  obtain ⟨hr, hf, hA, hB, nA, nB, hcat⟩ := h'
  obtain ⟨a, b, -, -, a1, a2, a3, a4, a5, a6⟩ := hi
  obtain ⟨a', b', -, -, c1, c2, c3, c4, c5, c6⟩ := hj
  have hix : inx (qi x) 6 := qi_inx hx (by omega)
  have hiy : inx (qi y) 6 := qi_inx hy (by omega)
  refine bPg_isSameLess_0 hX k1 k2 hix hiy ?_
  rw [qi_N (by omega), qi_N (by omega), hf _ _ (by omega) (by omega), hf _ _ (by omega) (by omega), a5, c5]
  refine cPg_arePaired hX k1 k2 h hp hcf a1 c1 (fun w => qcl_i (bPg_isSameLess_20 hX k1 k2 (fun z => absurd z (by decide)) (fun _ => hix) (fun _ => hiy) (fun _ => ?_))) (fun w => qcl_i (bPg_isSameLess_20 hX k1 k2 (fun _ => kf (fun z => w (by rw [a3, c3]; exact z.1))) (fun z => absurd rfl z) (fun z => absurd rfl z) (fun z => absurd rfl z)))
  rw [a3, c3] at w
  rw [qi_N (by omega), qi_N (by omega), hf _ _ (by omega) (by omega), hf _ _ (by omega) (by omega), a6, c6]
  refine cPg_arePaired hX k1 k2 h hp hcf a2 c2 (fun w' => qcl_i (bPg_isSameLess_43 hX k1 k2 (fun z => absurd z (by decide)) (fun _ => kt ⟨w, by rw [a4, c4] at w'; exact w'⟩))) (fun w' => qcl_i (bPg_isSameLess_43 hX k1 k2 (fun _ => kf (fun z => w' (by rw [a4, c4]; exact z.2))) (fun z => absurd rfl z)))
theorem cPg_lessFits {q p : Nat → Nat} (hX : X.length = 13) (k1 : kNf r1) (k2 : kNf r2) (h : pst mem m0 D E r1 r2 n1 n2 l1 l2 u1 u2 f1 f2) (hp : pok mem D E l1 l2 u1 u2 q p) (hcf : cft D E p)
    (kt : lfs D E p → P (.inl (some (.int 1)), hpo X mem sw o e)) (kf : ¬ lfs D E p → P (.inl (some (.int 0)), hpo X mem sw o e)) : QW (d + 3) mPg_lessFits 0 (qen 6 [.ref 190, .ref r1, .ref r2]) [] (hpo X mem sw o e) P := by
  have h' := h
  obtain ⟨hr, hf, hA, hB, nA, nB, hcat⟩ := h'
  have fA := hA.2.2.1
  have fB := hB.2.2.1
  obtain ⟨q1, a4, a6, lA1, lA2⟩ := (hA.2.2.2.2.2.2.2.2.2.1 nA).2
  obtain ⟨q2, b4, b6, lB1, lB2⟩ := (hB.2.2.2.2.2.2.2.2.2.1 nB).2
  have e1 : mem r1 4 = qi q1 := by rw [hf _ _ (by omega) (by omega)]; exact a4
  have e2 : mem r2 4 = qi q2 := by rw [hf _ _ (by omega) (by omega)]; exact b4
  have cA : ∀ x, x < q1 → ∃ i, cor D m0 r1 n1 x i := fun x hx => by
    obtain ⟨i, a, b, z⟩ := lA1 x hx
    exact ⟨i, a, b, z⟩
  have cB : ∀ x, x < q2 → ∃ i, cor E m0 r2 n2 x i := fun x hx => by
    obtain ⟨i, a, b, z⟩ := lB1 x hx
    exact ⟨i, a, b, z⟩
  have dA : ∀ i, i < dnc D → opn D i → ∃ x, x < q1 ∧ cor D m0 r1 n1 x i := fun i hi ho => by
    obtain ⟨x, a, b, z, z'⟩ := lA2 i hi ho
    exact ⟨x, z, a, b, hi, ho, z'⟩
  have dB : ∀ i, i < dnc E → opn E i → ∃ x, x < q2 ∧ cor E m0 r2 n2 x i := fun i hi ho => by
    obtain ⟨x, a, b, z, z'⟩ := lB2 i hi ho
    exact ⟨x, z, a, b, hi, ho, z'⟩
  let LS : Nat → Nat → Prop := fun x y => ∃ i j, cor D m0 r1 n1 x i ∧ cor E m0 r2 n2 y j ∧ slz D E p i j
  have LSi : ∀ {x y i j}, cor D m0 r1 n1 x i → cor E m0 r2 n2 y j → (LS x y ↔ slz D E p i j) := by
    intro x y i j hi hj
    refine ⟨fun ⟨i', j', c1, c2, c3⟩ => ?_, fun z => ⟨i, j, hi, hj, z⟩⟩
    obtain ⟨g1, g2⟩ := cor_u fA c1 hi
    obtain ⟨g3, g4⟩ := cor_u fB c2 hj
    exact ⟨gw_eq g1 g3 c3.1, gw_eq g2 g4 c3.2⟩
  have fst : (∀ x, x < q1 → ∃ y, y < q2 ∧ LS x y) ↔ ∀ i, i < dnc D → opn D i → ∃ j, j < dnc E ∧ opn E j ∧ slz D E p i j := by
    constructor
    · intro z i hi ho
      obtain ⟨x, hx, cx⟩ := dA i hi ho
      obtain ⟨y, hy, hl⟩ := z x hx
      obtain ⟨j, cy⟩ := cB y hy
      have cy' := cy
      obtain ⟨_, _, hj, hoj, _⟩ := cy'
      exact ⟨j, hj, hoj, (LSi cx cy).mp hl⟩
    · intro z x hx
      obtain ⟨i, cx⟩ := cA x hx
      have cx' := cx
      obtain ⟨_, _, hi, ho, _⟩ := cx'
      obtain ⟨j, hj, hoj, hs⟩ := z i hi ho
      obtain ⟨y, hy, cy⟩ := dB j hj hoj
      exact ⟨y, hy, (LSi cx cy).mpr hs⟩
  have sct : (∀ y, y < q2 → ∃ x, x < q1 ∧ LS x y) ↔ ∀ j, j < dnc E → opn E j → ∃ i, i < dnc D ∧ opn D i ∧ slz D E p i j := by
    constructor
    · intro z j hj ho
      obtain ⟨y, hy, cy⟩ := dB j hj ho
      obtain ⟨x, hx, hl⟩ := z y hy
      obtain ⟨i, cx⟩ := cA x hx
      have cx' := cx
      obtain ⟨_, _, hi, hoi, _⟩ := cx'
      exact ⟨i, hi, hoi, (LSi cx cy).mp hl⟩
    · intro z y hy
      obtain ⟨j, cy⟩ := cB y hy
      have cy' := cy
      obtain ⟨_, _, hj, ho, _⟩ := cy'
      obtain ⟨i, hi, hoi, hs⟩ := z j hj ho
      obtain ⟨x, hx, cx⟩ := dA i hi hoi
      exact ⟨x, hx, (LSi cx cy).mpr hs⟩
  -- the second way
  have lp2 : (∀ x, x < q1 → ∃ y, y < q2 ∧ LS x y) → ∀ f y w4 w5, y + f = q2 → qfr w4 → qfr w5 → (∀ y', y' < y → ∃ x, x < q1 ∧ LS x y') → QW (d + 3) mPg_lessFits 70 (lPg_lessFits_70 (qi y) w4 w5 r1 r2) [] (hpo X mem sw o e) P := by
    intro h1st f
    induction f with
    | zero =>
      intro y w4 w5 hy hw4 hw5 hall
      have hle : mem r2 4 ≤ qi y := by rw [e2]; exact (qi_le (by omega) (by omega)).mpr (by omega)
      exact bPg_lessFits_70 hX k1 k2 hw4 hw5 (fun _ => kt ⟨fst.mp h1st, sct.mp (fun y' hy' => hall y' (by omega))⟩) (fun z => absurd hle z)
    | succ f ih =>
      intro y w4 w5 hy hw4 hw5 hall
      have hle : ¬ mem r2 4 ≤ qi y := by rw [e2]; exact fun z => absurd ((qi_le (by omega) (by omega)).mp z) (by omega)
      refine bPg_lessFits_70 hX k1 k2 hw4 hw5 (fun z => absurd z hle) (fun _ => ?_)
      have inn : ∀ g x (a : Int32), x + g = q1 → (a = 0 ↔ ¬ ∃ x', x' < x ∧ LS x' y) → QW (d + 3) mPg_lessFits 84 (lPg_lessFits_84 (qi y) a (qi x) r1 r2) [] (hpo X mem sw o e) P := by
        intro g
        induction g with
        | zero =>
          intro x a hx ha
          have hle : mem r1 4 ≤ qi x := by rw [e1]; exact (qi_le (by omega) (by omega)).mpr (by omega)
          refine bPg_lessFits_84 hX k1 k2 (fun _ z => ?_) (fun _ z => kf (fun w => ?_)) (fun z => absurd hle z) (fun z => absurd hle z)
          · rw [qi_1]
            refine ih (y + 1) _ _ (by omega) (Or.inr (Or.inl ⟨_, rfl⟩)) (Or.inr (Or.inl ⟨_, rfl⟩)) (fun y' hy' => ?_)
            by_cases ey : y' = y
            · subst ey
              obtain ⟨x', hx', hl⟩ := Classical.byContradiction fun w => z (ha.mpr w)
              exact ⟨x', by omega, hl⟩
            · exact hall y' (by omega)
          · obtain ⟨x', hx', hl⟩ := sct.mpr w.2 y (by omega)
            exact ha.mp z ⟨x', by omega, hl⟩
        | succ g ih2 =>
          intro x a hx ha
          have hle : ¬ mem r1 4 ≤ qi x := by rw [e1]; exact fun z => absurd ((qi_le (by omega) (by omega)).mp z) (by omega)
          have nxt : ∀ b : Int32, (b = 0 ↔ ¬ ∃ x', x' < x + 1 ∧ LS x' y) → QW (d + 3) mPg_lessFits 115 (lPg_lessFits_115 (qi y) a (qi x) r1 r2) [.int b] (hpo X mem sw o e) P := by
            intro b hb
            refine bPg_lessFits_115 hX k1 k2 ?_
            rw [qi_1]
            exact ih2 (x + 1) b (by omega) hb
          have one' : (∃ x', x' < x + 1 ∧ LS x' y) → QW (d + 3) mPg_lessFits 110 (lPg_lessFits_110 (qi y) a (qi x) r1 r2) [] (hpo X mem sw o e) P := fun w => bPg_lessFits_110 hX k1 k2 (nxt 1 ⟨fun z => absurd z (by decide), fun z => absurd w z⟩)
          refine bPg_lessFits_84 hX k1 k2 (fun z => absurd z hle) (fun z => absurd z hle) (fun _ z => one' ?_) (fun _ z => ?_)
          · obtain ⟨x', hx', hl⟩ := Classical.byContradiction fun w => z (ha.mpr w)
            exact ⟨x', by omega, hl⟩
          · obtain ⟨i, ci⟩ := cA x (by omega)
            obtain ⟨j, cj⟩ := cB y (by omega)
            refine cPg_isSameLess hX k1 k2 h hp hcf (by omega) (by omega) ci cj (fun w => qcl_i (bPg_lessFits_107 hX k1 k2 (fun zz => absurd zz (by decide)) (fun _ => one' ⟨x, by omega, (LSi ci cj).mpr w⟩))) (fun w => qcl_i (bPg_lessFits_107 hX k1 k2 (fun _ => nxt 0 ⟨fun _ => ?_, fun _ => rfl⟩) (fun zz => absurd rfl zz)))
            rintro ⟨x', hx', hl⟩
            by_cases ex : x' = x
            · subst ex
              exact w ((LSi ci cj).mp hl)
            · exact ha.mp z ⟨x', by omega, hl⟩
      exact inn q1 0 0 (by omega) ⟨fun _ => fun ⟨x', hx', _⟩ => absurd hx' (by omega), fun _ => rfl⟩
  -- the first way
  have lp1 : ∀ f x w4 w5, x + f = q1 → qfr w4 → qfr w5 → (∀ x', x' < x → ∃ y, y < q2 ∧ LS x' y) → QW (d + 3) mPg_lessFits 2 (lPg_lessFits_2 (qi x) w4 w5 r1 r2) [] (hpo X mem sw o e) P := by
    intro f
    induction f with
    | zero =>
      intro x w4 w5 hx hw4 hw5 hall
      have hle : mem r1 4 ≤ qi x := by rw [e1]; exact (qi_le (by omega) (by omega)).mpr (by omega)
      exact bPg_lessFits_2 hX k1 k2 hw4 hw5 (fun _ => lp2 (fun x' hx' => hall x' (by omega)) q2 0 w4 w5 (by omega) hw4 hw5 (fun y' hy' => absurd hy' (by omega))) (fun z => absurd hle z)
    | succ f ih =>
      intro x w4 w5 hx hw4 hw5 hall
      have hle : ¬ mem r1 4 ≤ qi x := by rw [e1]; exact fun z => absurd ((qi_le (by omega) (by omega)).mp z) (by omega)
      refine bPg_lessFits_2 hX k1 k2 hw4 hw5 (fun z => absurd z hle) (fun _ => ?_)
      have inn : ∀ g y (a : Int32), y + g = q2 → (a = 0 ↔ ¬ ∃ y', y' < y ∧ LS x y') → QW (d + 3) mPg_lessFits 16 (lPg_lessFits_16 (qi x) a (qi y) r1 r2) [] (hpo X mem sw o e) P := by
        intro g
        induction g with
        | zero =>
          intro y a hy ha
          have hle : mem r2 4 ≤ qi y := by rw [e2]; exact (qi_le (by omega) (by omega)).mpr (by omega)
          refine bPg_lessFits_16 hX k1 k2 (fun _ z => ?_) (fun _ z => kf (fun w => ?_)) (fun z => absurd hle z) (fun z => absurd hle z)
          · rw [qi_1]
            refine ih (x + 1) _ _ (by omega) (Or.inr (Or.inl ⟨_, rfl⟩)) (Or.inr (Or.inl ⟨_, rfl⟩)) (fun x' hx' => ?_)
            by_cases ex : x' = x
            · subst ex
              obtain ⟨y', hy', hl⟩ := Classical.byContradiction fun w => z (ha.mpr w)
              exact ⟨y', by omega, hl⟩
            · exact hall x' (by omega)
          · obtain ⟨y', hy', hl⟩ := fst.mpr w.1 x (by omega)
            exact ha.mp z ⟨y', by omega, hl⟩
        | succ g ih2 =>
          intro y a hy ha
          have hle : ¬ mem r2 4 ≤ qi y := by rw [e2]; exact fun z => absurd ((qi_le (by omega) (by omega)).mp z) (by omega)
          have nxt : ∀ b : Int32, (b = 0 ↔ ¬ ∃ y', y' < y + 1 ∧ LS x y') → QW (d + 3) mPg_lessFits 47 (lPg_lessFits_47 (qi x) a (qi y) r1 r2) [.int b] (hpo X mem sw o e) P := by
            intro b hb
            refine bPg_lessFits_47 hX k1 k2 ?_
            rw [qi_1]
            exact ih2 (y + 1) b (by omega) hb
          have one' : (∃ y', y' < y + 1 ∧ LS x y') → QW (d + 3) mPg_lessFits 42 (lPg_lessFits_42 (qi x) a (qi y) r1 r2) [] (hpo X mem sw o e) P := fun w => bPg_lessFits_42 hX k1 k2 (nxt 1 ⟨fun z => absurd z (by decide), fun z => absurd w z⟩)
          refine bPg_lessFits_16 hX k1 k2 (fun z => absurd z hle) (fun z => absurd z hle) (fun _ z => one' ?_) (fun _ z => ?_)
          · obtain ⟨y', hy', hl⟩ := Classical.byContradiction fun w => z (ha.mpr w)
            exact ⟨y', by omega, hl⟩
          · obtain ⟨i, ci⟩ := cA x (by omega)
            obtain ⟨j, cj⟩ := cB y (by omega)
            refine cPg_isSameLess hX k1 k2 h hp hcf (by omega) (by omega) ci cj (fun w => qcl_i (bPg_lessFits_39 hX k1 k2 (fun zz => absurd zz (by decide)) (fun _ => one' ⟨y, by omega, (LSi ci cj).mpr w⟩))) (fun w => qcl_i (bPg_lessFits_39 hX k1 k2 (fun _ => nxt 0 ⟨fun _ => ?_, fun _ => rfl⟩) (fun zz => absurd rfl zz)))
            rintro ⟨y', hy', hl⟩
            by_cases ey : y' = y
            · subst ey
              exact w ((LSi ci cj).mp hl)
            · exact ha.mp z ⟨y', by omega, hl⟩
      exact inn q2 0 0 (by omega) ⟨fun _ => fun ⟨y', hy', _⟩ => absurd hy' (by omega), fun _ => rfl⟩
  exact bPg_lessFits_0 hX k1 k2 (lp1 q1 0 .unset .unset (by omega) (Or.inl rfl) (Or.inl rfl) (fun x' hx' => absurd hx' (by omega)))
theorem cPg_pairFrom (hX : X.length = 13) (k1 : kNf r1) (k2 : kNf r2) (hno : dno D = dno E) (hll : l1 = l2) : ∀ (f x : Nat) (q : Nat → Nat) (mem : Nat → Nat → Int32) (P : qE → Prop), x + f = l1 → pst mem m0 D E r1 r2 n1 n2 l1 l2 u1 u2 f1 f2 → (∀ i, i < x → mem 191 i = qi (q i) ∧ q i < l2 ∧ dtb D (u1 i) = dtb E (u2 (q i))) → (∀ i j, i < x → j < x → q i = q j → i = j) → (∀ y, y < 4 → (mem 192 y = 0 ↔ ∀ i, i < x → q i ≠ y)) →
    (∀ m' (r : Int32), (∀ j y, j ≠ 191 → m' j y = mem j y) → (∀ i, i < x → m' 191 i = mem 191 i) → b01 r → (r = 1 ↔ ∃ q', (∀ i, i < x → q' i = q i) ∧ GI D E l1 l2 u1 u2 q') → P (.inl (some (.int r)), hpo X m' sw o e)) → QW (d + 4 + f) mPg_pairFrom 0 (qen 6 [.ref 190, .int (qi x), .ref r1, .ref r2]) [] (hpo X mem sw o e) P := by
  intro f
  induction f with
  | zero =>
    intro x q mem P hx h hq hinj htk k
    have h' := h
    obtain ⟨hr, hf, hA, hB, nA, nB, hcat⟩ := h'
    have lA := hA.2.2.2.2.2.2.2.2.2.2.2.1
    have lB := hB.2.2.2.2.2.2.2.2.2.2.2.1
    have l4 := lft_4 hA.1 lA (Nat.le_refl _)
    have h7 : mem r1 7 = qi l1 := by rw [hf _ _ (by omega) (by omega)]; exact hA.2.2.2.2.2.2.2.2.2.2.1
    obtain rfl : x = l1 := by omega
    have hle : ¬ qi x < mem r1 7 := by rw [h7]; exact fun z => Int32.lt_irrefl z
    have hp : pok mem D E x l2 u1 u2 q (pmp x u1 u2 q) := fun i hi => ⟨(hq i hi).1, (hq i hi).2.1, (pmp_at lA hi).symm, by rw [pmp_at lA hi]; exact (hq i hi).2.2⟩
    have iff : (∃ q', (∀ i, i < x → q' i = q i) ∧ GI D E x l2 u1 u2 q') ↔ ftp D E (pmp x u1 u2 q) := by
      constructor
      · rintro ⟨q', e1, -, -, e2⟩
        rw [← pmp_eq e1]; exact e2
      · intro z
        exact ⟨q, fun _ _ => rfl, fun i hi => ⟨(hq i hi).2.1, (hq i hi).2.2⟩, hinj, z⟩
    have no : ¬ ftp D E (pmp x u1 u2 q) → P (.inl (some (.int 0)), hpo X mem sw o e) := fun z => k mem 0 (fun _ _ _ => rfl) (fun _ _ => rfl) (Or.inl rfl) ⟨fun w => absurd w (by decide), fun w => absurd (iff.mp w) z⟩
    refine bPg_pairFrom_0 hX k1 k2 (fun z => absurd z hle) (fun _ => ?_)
    refine cPg_columnsFit (d := d + 1) hX k1 k2 h hp (fun w1 => qcl_i (bPg_pairFrom_14 hX k1 k2 (fun z => absurd z (by decide)) (fun _ => ?_))) (fun w1 => qcl_i (bPg_pairFrom_14 hX k1 k2 (fun _ => no (fun z => w1 z.1)) (fun z => absurd rfl z)))
    refine cPg_outputsFit (d := d + 1) hX k1 k2 h hp w1 hno (fun w2 => qcl_i (bPg_pairFrom_23 hX k1 k2 (fun z => absurd z (by decide)) (fun _ => ?_))) (fun w2 => qcl_i (bPg_pairFrom_23 hX k1 k2 (fun _ => no (fun z => w2 z.2.1)) (fun z => absurd rfl z)))
    refine cPg_lessFits (d := d) hX k1 k2 h hp w1 (fun w3 => qcl_i (bPg_pairFrom_32 hX k1 k2 (fun z => absurd z (by decide)) (fun _ => ?_))) (fun w3 => qcl_i (bPg_pairFrom_32 hX k1 k2 (fun _ => no (fun z => w3 z.2.2)) (fun z => absurd rfl z)))
    exact k mem 1 (fun _ _ _ => rfl) (fun _ _ => rfl) (Or.inr rfl) ⟨fun _ => iff.mpr ⟨w1, w2, w3⟩, fun _ => rfl⟩
  | succ f ih =>
    intro x q mem P hx h hq hinj htk k
    have h' := h
    obtain ⟨hr, hf, hA, hB, nA, nB, hcat⟩ := h'
    have lA := hA.2.2.2.2.2.2.2.2.2.2.2.1
    have lB := hB.2.2.2.2.2.2.2.2.2.2.2.1
    have mA := hA.2.2.2.2.2.2.2.2.2.2.2.2
    have mB := hB.2.2.2.2.2.2.2.2.2.2.2.2
    have l4 := lft_4 hA.1 lA (Nat.le_refl _)
    have l4' := lft_4 hB.1 lB (Nat.le_refl _)
    have h7 : mem r1 7 = qi l1 := by rw [hf _ _ (by omega) (by omega)]; exact hA.2.2.2.2.2.2.2.2.2.2.1
    have hle : qi x < mem r1 7 := by rw [h7]; exact (qi_lt (by omega) (by omega)).mpr (by omega)
    refine bPg_pairFrom_0 (d := d + 4 + f) hX k1 k2 (fun _ => ?_) (fun z => absurd hle z)
    have lp : ∀ g y w5 m, y + g = l2 → qfr w5 → (∀ j z, j ≠ 191 → m j z = mem j z) → (∀ i, i < x → m 191 i = mem 191 i) → (∀ q', (∀ i, i < x → q' i = q i) → q' x < y → ¬ GI D E l1 l2 u1 u2 q') → QW (d + 4 + f + 1) mPg_pairFrom 44 (lPg_pairFrom_44 (qi x) (qi y) w5 r1 r2) [] (hpo X m sw o e) P := by
      intro g
      induction g with
      | zero =>
        intro y w5 m hy hw5 hfm hm1 hall
        have h7' : m r2 7 = qi l2 := by rw [hfm _ _ (by omega), hf _ _ (by omega) (by omega)]; exact hB.2.2.2.2.2.2.2.2.2.2.1
        have hle : m r2 7 ≤ qi y := by rw [h7']; exact (qi_le (by omega) (by omega)).mpr (by omega)
        refine bPg_pairFrom_44 hX k1 k2 hw5 (fun _ => k m 0 hfm hm1 (Or.inl rfl) ⟨fun z => absurd z (by decide), fun ⟨q', a1, a2⟩ => absurd a2 (hall q' a1 ?_)⟩) (fun z => absurd hle z) (fun z => absurd hle z) (fun z => absurd hle z) (fun z => absurd hle z) (fun z => absurd hle z) (fun z => absurd hle z) (fun z => absurd hle z) (fun z => absurd hle z)
        have := (a2.1 x (by omega)).1
        omega
      | succ g ih2 =>
        intro y w5 m hy hw5 hfm hm1 hall
        have h7' : m r2 7 = qi l2 := by rw [hfm _ _ (by omega), hf _ _ (by omega) (by omega)]; exact hB.2.2.2.2.2.2.2.2.2.2.1
        have hle : ¬ m r2 7 ≤ qi y := by rw [h7']; exact fun z => absurd ((qi_le (by omega) (by omega)).mp z) (by omega)
        have Nx : Int32.toNatClampNeg (qi x) = x := qi_N (by omega)
        have Ny : Int32.toNatClampNeg (qi y) = y := qi_N (by omega)
        have ix : inx (qi x) 4 := qi_inx (by omega) (by omega)
        have iy : inx (qi y) 4 := qi_inx (by omega) (by omega)
        have e192 : m 192 y = mem 192 y := hfm _ _ (by omega)
        have e5a : m (r1 + 5) x = qi (dtb D (u1 x)) := by rw [hfm _ _ (by omega), hf _ _ (by omega) (by omega)]; exact (mA x (by omega)).2.1
        have e5b : m (r2 + 5) y = qi (dtb E (u2 y)) := by rw [hfm _ _ (by omega), hf _ _ (by omega) (by omega)]; exact (mB y (by omega)).2.1
        have ta := (hA.1.2.2.2.1 _ (lA.2.1 x (by omega)).1.1).2
        have tb := (hB.1.2.2.2.1 _ (lB.2.1 y (by omega)).1.1).2
        have skip : (∀ q', (∀ i, i < x → q' i = q i) → q' x = y → ¬ GI D E l1 l2 u1 u2 q') → ∀ w5 m, qfr w5 → (∀ j z, j ≠ 191 → m j z = mem j z) → (∀ i, i < x → m 191 i = mem 191 i) → QW (d + 4 + f + 1) mPg_pairFrom 44 (lPg_pairFrom_44 (qi x) (qi y + 1) w5 r1 r2) [] (hpo X m sw o e) P := by
          intro hn w5 m hw5 hfm hm1
          rw [qi_1]
          refine ih2 (y + 1) w5 m (by omega) hw5 hfm hm1 (fun q' a1 a2 => ?_)
          by_cases e1 : q' x = y
          · exact hn q' a1 e1
          · exact hall q' a1 (by omega)
        refine bPg_pairFrom_44 (d := d + 4 + f) hX k1 k2 hw5 (fun z => absurd z hle) (fun _ => iy) (fun _ z => skip (fun q' a1 a2 a3 => ?_) w5 m hw5 hfm hm1) (fun _ _ => ix) (fun _ _ => iy) (fun _ _ z => skip (fun q' a1 a2 a3 => ?_) w5 m hw5 hfm hm1) (fun _ _ _ => ix) (fun _ _ _ => iy) (fun _ z1 z2 => ?_)
        · rw [Ny, e192] at z
          refine z ((htk y (by omega)).mpr (fun i hi w => ?_))
          have := a3.2.1 i x (by omega) (by omega) (by rw [a1 i hi, a2, w])
          omega
        · rw [Nx, Ny, e5a, e5b] at z
          refine z ?_
          rw [(a3.1 x (by omega)).2, a2]
        · rw [Ny, e192] at z1
          rw [Nx, Ny, e5a, e5b] at z2
          have hfree := (htk y (by omega)).mp z1
          have htab : dtb D (u1 x) = dtb E (u2 y) := qi_inj (by omega) (by omega) z2
          rw [qi_1, Nx, Ny]
          have old : ∀ j z, j ≠ 191 → ¬ (j = 192 ∧ z = y) → (mup (mup m 191 x (qi y)) 192 y 1) j z = mem j z := fun j z a1 a2 => by rw [mup_q, if_neg a2, mup_ce a1]; exact hfm j z a1
          have o191 : ∀ i, i < x → (mup (mup m 191 x (qi y)) 192 y 1) 191 i = mem 191 i := fun i hi => by rw [mup_ce (by omega), mup_sl (by omega)]; exact hm1 i hi
          have x191 : (mup (mup m 191 x (qi y)) 192 y 1) 191 x = qi y := by rw [mup_ce (by omega), mup_at]
          refine ih (x + 1) (fun i => if i = x then y else q i) _ _ (by omega) ⟨hr, fun j z a1 a2 => by rw [old j z a1 (by omega)]; exact hf j z a1 a2, hA, hB, nA, nB, hcat⟩ (fun i hi => ?_) (fun i j hi hj hij => ?_) (fun z hz => ?_) (fun m' r g1 g2 g3 g4 => qcl_i ?_)
          · by_cases e1 : i = x
            · subst e1
              simp only [if_true]
              exact ⟨x191, by omega, htab⟩
            · simp only [if_neg e1]
              rw [o191 i (by omega)]
              exact hq i (by omega)
          · by_cases e1 : i = x
            · by_cases e2 : j = x
              · omega
              · simp only [if_pos e1, if_neg e2] at hij
                exact absurd hij.symm (hfree j (by omega))
            · by_cases e2 : j = x
              · simp only [if_neg e1, if_pos e2] at hij
                exact absurd hij (hfree i (by omega))
              · simp only [if_neg e1, if_neg e2] at hij
                exact hinj i j (by omega) (by omega) hij
          · by_cases ez : z = y
            · rw [ez, mup_at]
              exact ⟨fun w => absurd w (by decide), fun w => absurd (show (if x = x then y else q x) = y by simp) (w x (by omega))⟩
            · rw [old 192 z (by omega) (by omega), htk z hz]
              constructor
              · intro w i hi
                by_cases e1 : i = x
                · simp only [if_pos e1]; omega
                · simp only [if_neg e1]; exact w i (by omega)
              · intro w i hi
                have := w i (by omega)
                rw [if_neg (by omega)] at this
                exact this
          · have back : ∀ j z, j ≠ 191 → (mup m' 192 y 0) j z = mem j z := by
              intro j z a1
              by_cases e1 : j = 192 ∧ z = y
              · rw [e1.1, e1.2, mup_at]; exact z1.symm
              · rw [mup_q, if_neg e1, g1 j z a1, old j z a1 e1]
            have back1 : ∀ i, i < x → (mup m' 192 y 0) 191 i = mem 191 i := fun i hi => by rw [mup_ce (by omega), g2 i (by omega), o191 i hi]
            have conv : (∃ q', (∀ i, i < x + 1 → q' i = if i = x then y else q i) ∧ GI D E l1 l2 u1 u2 q') ↔ ∃ q', (∀ i, i < x → q' i = q i) ∧ q' x = y ∧ GI D E l1 l2 u1 u2 q' := by
              constructor
              · rintro ⟨q', a1, a2⟩
                refine ⟨q', fun i hi => ?_, ?_, a2⟩
                · have := a1 i (by omega)
                  rw [if_neg (by omega)] at this
                  exact this
                · have := a1 x (by omega)
                  rw [if_pos rfl] at this
                  exact this
              · rintro ⟨q', a1, a2, a3⟩
                refine ⟨q', fun i hi => ?_, a3⟩
                by_cases e1 : i = x
                · rw [if_pos e1, e1]; exact a2
                · rw [if_neg e1]; exact a1 i (by omega)
            rw [conv] at g4
            refine bPg_pairFrom_104 hX k1 k2 hw5 iy (fun z => ?_) (fun z => ?_)
            · rw [Ny]
              refine skip (fun q' a1 a2 a3 => ?_) _ _ (Or.inr (Or.inl ⟨_, rfl⟩)) back back1
              have := g4.mpr ⟨q', a1, a2, a3⟩
              rw [z] at this
              exact absurd this (by decide)
            · rw [Ny]
              refine k _ 1 back back1 (Or.inr rfl) ⟨fun _ => ?_, fun _ => rfl⟩
              have hr1 : r = 1 := by
                rcases g3 with g3 | g3
                · exact absurd g3 z
                · exact g3
              obtain ⟨q', a1, a2, a3⟩ := g4.mp hr1
              exact ⟨q', a1, a3⟩
    exact lp l2 0 .unset mem (by omega) (Or.inl rfl) (fun _ _ _ => rfl) (fun _ _ => rfl) (fun q' _ z => absurd z (by omega))
theorem cPg_exists (hX : X.length = 13) (k1 : kNf r1) (k2 : kNf r2) (hr : r1 + 10 ≤ 191 ∧ r2 + 10 ≤ 191) (hA : nfo D mem r1 n1 l1 u1 f1) (hB : nfo E mem r2 n2 l2 u2 f2) (hcat : cat2 D E) (h192 : ∀ i, i < 4 → mem 192 i = 0)
    (k : ∀ m' (r : Int32), (∀ j y, j ≠ 191 → m' j y = mem j y) → b01 r → (r = 1 ↔ Alk D E f1 f2) → P (.inl (some (.int r)), hpo X m' sw o e)) : QW (d + 9) mPg_exists 0 (qen 3 [.ref 190, .ref r1, .ref r2]) [] (hpo X mem sw o e) P := by
  have lA := hA.2.2.2.2.2.2.2.2.2.2.2.1
  have lB := hB.2.2.2.2.2.2.2.2.2.2.2.1
  have l4 := lft_4 hA.1 lA (Nat.le_refl _)
  have l4' := lft_4 hB.1 lB (Nat.le_refl _)
  have a7 := hA.2.2.2.2.2.2.2.2.2.2.1
  have b7 := hB.2.2.2.2.2.2.2.2.2.2.1
  have a0 := hA.2.2.2.2.1
  have b0 := hB.2.2.2.2.1
  have aE := hA.2.2.2.2.2.1
  have bE := hB.2.2.2.2.2.1
  have a1 := hA.2.2.2.2.2.2.1
  have b1 := hB.2.2.2.2.2.2.1
  have a2 := hA.2.2.2.2.2.2.2.1
  have b2 := hB.2.2.2.2.2.2.2.1
  have a3 := hA.1.2.2.1.2
  have b3 := hB.1.2.2.1.2
  have zA : mem r1 0 = 0 ↔ ¬ Emp D := by
    rw [← aE]
    rcases a0 with q | q <;> rw [q] <;> decide
  have zB : mem r2 0 = 0 ↔ ¬ Emp E := by
    rw [← bE]
    rcases b0 with q | q <;> rw [q] <;> decide
  have no : ¬ Alk D E f1 f2 → P (.inl (some (.int 0)), hpo X mem sw o e) := fun z => k mem 0 (fun _ _ _ => rfl) (Or.inl rfl) ⟨fun w => absurd w (by decide), fun w => absurd w z⟩
  have eno : mem r1 2 = mem r2 2 ↔ dno D = dno E := by
    rw [a2, b2]
    exact ⟨fun q => qi_inj (by omega) (by omega) q, fun q => by rw [q]⟩
  have emp : f1 = f2 → dno D = dno E → (Emp D ∨ Emp E) → QW (d + 9) mPg_exists 38 (lPg_exists_38 r1 r2) [] (hpo X mem sw o e) P := by
    intro g1 g2 g3
    refine bPg_exists_38 hX k1 k2 (fun z => no (fun w => ?_)) (fun z1 z2 => no (fun w => ?_)) (fun z1 z2 => k mem 1 (fun _ _ _ => rfl) (Or.inr rfl) ⟨fun _ => ⟨g1, g2, Or.inl ⟨?_, ?_⟩⟩, fun _ => rfl⟩)
    · rcases w.2.2 with w | w
      · exact zA.mp z w.1
      · rcases g3 with g3 | g3
        · exact w.1 g3
        · exact w.2.1 g3
    · rcases w.2.2 with w | w
      · exact zB.mp z2 w.2
      · exact z1 (zA.mpr w.1)
    · exact Classical.byContradiction fun q => z1 (zA.mpr q)
    · exact Classical.byContradiction fun q => z2 (zB.mpr q)
  refine bPg_exists_0 (d := d + 8) hX k1 k2 (fun z => no (fun w => z (by rw [a1, b1]; exact w.1))) (fun z1 z2 z3 => emp (by rw [a1, b1] at z1; exact z1) (eno.mp z2) (Or.inl (Classical.byContradiction fun q => z3 (zA.mpr q)))) (fun z1 z2 z3 z4 z5 => no (fun w => ?_)) (fun z1 z2 z3 z4 z5 => ?_) (fun z1 z2 z3 z4 => emp (by rw [a1, b1] at z1; exact z1) (eno.mp z2) (Or.inr (Classical.byContradiction fun q => z4 (zB.mpr q)))) (fun z1 z2 => no (fun w => z2 (eno.mpr w.2.1)))
  · rcases w.2.2 with w | w
    · exact zA.mp z3 w.1
    · refine z5 ?_
      rw [a7, b7, lA.1, lB.1, w.2.2.1]
  · have hll : l1 = l2 := qi_inj (by omega) (by omega) (by rw [← a7, ← b7]; exact z5)
    have nA := zA.mp z3
    have nB := zB.mp z4
    have hno := eno.mp z2
    have e1 : (d + 8) = (d + 4 - l1) + 4 + l1 := by omega
    rw [e1]
    refine cPg_pairFrom (d := d + 4 - l1) hX k1 k2 hno hll l1 0 (fun _ => 0) mem _ (by omega) ⟨hr, fun _ _ _ _ => rfl, hA, hB, nA, nB, hcat⟩ (fun i hi => absurd hi (by omega)) (fun i j hi => absurd hi (by omega)) (fun y hy => ⟨fun _ i hi => absurd hi (by omega), fun _ => h192 y hy⟩) (fun m' r g1 g2 g3 g4 => qcl_i ?_)
    have iff : r = 1 ↔ Alk D E f1 f2 := by
      rw [g4]
      constructor
      · rintro ⟨q', _, q2⟩
        refine ⟨by rw [a1, b1] at z1; exact z1, hno, Or.inr ⟨nA, nB, by rw [← lA.1, ← lB.1]; exact hll, (GI_iff hA.1 lA lB).mp ⟨q', q2⟩⟩⟩
      · rintro ⟨_, _, w | w⟩
        · exact absurd w.1 nA
        · obtain ⟨q', q2⟩ := (GI_iff hA.1 lA lB).mpr w.2.2.2
          exact ⟨q', fun i hi => absurd hi (by omega), q2⟩
    refine bPg_exists_76 hX k1 k2 (fun z => ?_) (fun z => ?_)
    · exact k m' 0 g1 (Or.inl rfl) (by rw [← iff, z])
    · have : r = 1 := by
        rcases g3 with g3 | g3
        · exact absurd g3 z
        · exact g3
      exact k m' 1 g1 (Or.inr rfl) (by rw [← iff, this])
end PG2
