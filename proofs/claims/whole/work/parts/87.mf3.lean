/-- the reference's form at side z is D's -/
def mfo (D : qD) (m : Nat → Nat → Int32) (z nn : Nat) (st : Nat → Nat) : Prop := z < 2 ∧ nn ≤ 15 ∧ m 221 z = qi nn ∧ frm D nn (num2 m z) (grp m z) ∧ ∀ s, s < dns D → m 222 (4 * z + s) = qi (st s) ∧ (st s = s ↔ std D s) ∧ st s ≤ s
def FF (D : qD) (g : Nat → Int32) (s t : Nat) : Prop := s = t ∨ (s < dns D ∧ t < dns D ∧ dtb D s = dtb D t ∧ ful D g s t)
section MF3
variable {d : Nat} {P : qE → Prop} {X : qH} {sw : Bool} {o : Int64} {e : List Nat} {mem m0 : Nat → Nat → Int32} {z mb nn : Nat} {D : qD} {st : Nat → Nat} {g g' : Nat → Int32}
theorem FF_s (ok : okD D) {s t : Nat} (h : FF D g s t) : FF D g t s := by
  rcases h with h | ⟨h1, h2, h3, h4⟩
  · exact Or.inl h.symm
  · exact Or.inr ⟨h2, h1, h3.symm, fun c hc => (h4 c (by rw [(ok.2.2.2.2.1 s t h1 h2 h3).1]; exact hc)).symm⟩
theorem FF_t (ok : okD D) {s t u : Nat} (h : FF D g s t) (h' : FF D g t u) : FF D g s u := by
  rcases h with rfl | ⟨h1, h2, h3, h4⟩
  · exact h'
  · rcases h' with rfl | ⟨k1, k2, k3, k4⟩
    · exact Or.inr ⟨h1, h2, h3, h4⟩
    · exact Or.inr ⟨h1, k2, h3.trans k3, fun c hc => (h4 c hc).trans (k4 c (by rw [← (ok.2.2.2.2.1 s t h1 h2 h3).1]; exact hc))⟩
theorem FF_m (ok : okD D) (h : ∀ a b, a < 32 → b < 32 → g a = g b → g' a = g' b) {s t : Nat} (hF : FF D g s t) : FF D g' s t := by
  have q4' := ok.1.2
  rcases hF with h1 | ⟨h1, h2, h3, h4⟩
  · exact Or.inl h1
  · refine Or.inr ⟨h1, h2, h3, fun c hc => ?_⟩
    have := (ok.2.2.2.1 s h1).1
    exact h _ _ (by omega) (by omega) (h4 c hc)
theorem kcl_of (ok : okD D) (h : ∀ x y, y < x → x < dns D → on1 D g x y → ful D g x y) : kcl D g := by
  intro s t hs ht ho
  rcases Nat.lt_trichotomy s t with q | q | q
  · have cl := ok.2.2.2.2.1 s t hs ht ho.1
    obtain ⟨o1, c1, o2, o3, o4⟩ := ho
    have := h t s q ht ⟨o1.symm, c1, by omega, (cl.2 c1).mp o3, o4.symm⟩
    exact fun c hc => (this c (by omega)).symm
  · rw [q]; exact fun c _ => rfl
  · exact h s t q hs ho
theorem cMo_rounds {mr : Nat → Nat → Int32} {w4 w5 : Slot} (hX : X.length = 13) (h : mst mr m0 z mb nn D) (hc : mcs D nn (num2 mr z) (grp mr z) z) (hst : ∀ s, s < dns D → mr 222 (4 * z + s) = qi s) (hw4 : qfr w4) (hw5 : qfr w5)
    (k : ∀ m' st, (∀ j q, ¬ (j = 219 ∧ 32 * z ≤ q ∧ q < 32 * z + 32) → ¬ (j = 222 ∧ 4 * z ≤ q ∧ q < 4 * z + 4) → m' j q = mr j q) → mcs D nn (num2 mr z) (grp m' z) z → (∀ a b, a < 32 → b < 32 → grp mr z a = grp mr z b → grp m' z a = grp m' z b) → kcl D (grp m' z) → (∀ s, s < dns D → m' 222 (4 * z + s) = qi (st s)) → stv D st → (∀ x y, y < x → x < dns D → on1 D (grp m' z) x y → st x = st y) → P (.inl none, hpo X m' sw o e)) : QW (d + 2) mMo_form 175 (lMo_form_175 (qi z) (qi mb) 0 w4 w5) [] (hpo X mr sw o e) P := by
  have hz := h.1
  have hb := h.2.1
  have ok := hb.1
  have hmb := hb.2.1
  have q4' := ok.1.2
  have imb : inx (qi mb) 15 := qi_inx hmb (by omega)
  -- what holds all the time
  let R : (Nat → Nat → Int32) → (Nat → Nat) → Prop := fun m st => (∀ j q, ¬ (j = 219 ∧ 32 * z ≤ q ∧ q < 32 * z + 32) → ¬ (j = 222 ∧ 4 * z ≤ q ∧ q < 4 * z + 4) → m j q = mr j q) ∧ mcs D nn (num2 mr z) (grp m z) z ∧ (∀ a b, a < 32 → b < 32 → grp mr z a = grp mr z b → grp m z a = grp m z b) ∧ (∀ s, s < dns D → m 222 (4 * z + s) = qi (st s)) ∧ stv D st
  have rm : ∀ m st, R m st → mst m m0 z mb nn D := fun m st q => mst_to h (q.1 _ _ (by omega) (by omega)) (fun x _ _ => q.1 _ _ (by omega) (by omega)) (fun j x hj => q.1 _ _ (by omega) (by omega))
  have rn : ∀ m st, R m st → num2 m z = num2 mr z := fun m st q => funext fun i => by unfold num2; rw [q.1 _ _ (by omega) (by omega)]
  have r4 : ∀ m st, R m st → m 204 (Int32.toNatClampNeg (qi mb)) = qi (dns D) := fun m st q => by rw [qi_N (by omega), (rm m st q).2.2.1 _ _ (by omega)]; exact hb.2.2.2.1
  -- a round
  have rnd : ∀ kk m1 st1 w5, kk < 4 → qfr w5 → R m1 st1 → (∀ m st w4 w5, qfr w4 → qfr w5 → R m st → (kcl D (grp m1 z) → (∀ a, a < 32 → grp m z a = grp m1 z a) ∧ ∀ x y, y < x → x < dns D → on1 D (grp m1 z) x y → st x = st y) → ((kcl D (grp m1 z) ∧ ∀ a, a < 32 → grp m z a = grp m1 z a) ∨ cnF (FF D (grp m1 z)) < cnF (FF D (grp m z))) → QW (d + 2) mMo_form 175 (lMo_form_175 (qi z) (qi mb) (qi (kk + 1)) w4 w5) [] (hpo X m sw o e) P) → QW (d + 2) mMo_form 183 (lMo_form_183 (qi z) (qi mb) (qi kk) 0 w5) [] (hpo X m1 sw o e) P := by
    intro kk m1 st1 w5 hk hw5 hR1 nxt
    let Q : Nat → Nat → (Nat → Nat → Int32) → (Nat → Nat) → Prop := fun s r m st => (kcl D (grp m1 z) → (∀ a, a < 32 → grp m z a = grp m1 z a) ∧ ∀ x y, y < x → x < dns D → (x < s ∨ (x = s ∧ y < r)) → on1 D (grp m1 z) x y → st x = st y) ∧ (((∀ a, a < 32 → grp m z a = grp m1 z a) ∧ ∀ x y, y < x → x < dns D → (x < s ∨ (x = s ∧ y < r)) → on1 D (grp m1 z) x y → ful D (grp m1 z) x y) ∨ cnF (FF D (grp m1 z)) < cnF (FF D (grp m z)))
    have o1g : ∀ m, (∀ a, a < 32 → grp m z a = grp m1 z a) → ∀ x y, x < dns D → y < dns D → (on1 D (grp m z) x y ↔ on1 D (grp m1 z) x y) ∧ (ful D (grp m z) x y ↔ ful D (grp m1 z) x y) := by
      intro m hg x y hx hy
      have := (ok.2.2.2.1 x hx).1
      constructor
      · constructor
        · rintro ⟨a1, c, a2, a3, a4⟩
          rw [hg _ (by omega), hg _ (by omega)] at a4
          exact ⟨a1, c, a2, a3, a4⟩
        · rintro ⟨a1, c, a2, a3, a4⟩
          refine ⟨a1, c, a2, a3, ?_⟩
          rw [hg _ (by omega), hg _ (by omega)]
          exact a4
      · constructor
        · intro q c hc
          have := q c hc
          rw [hg _ (by omega), hg _ (by omega)] at this
          exact this
        · intro q c hc
          rw [hg _ (by omega), hg _ (by omega)]
          exact q c hc
    have outer : ∀ f s m st w5, s + f = dns D → qfr w5 → R m st → Q s 0 m st → QW (d + 2) mMo_form 183 (lMo_form_183 (qi z) (qi mb) (qi kk) (qi s) w5) [] (hpo X m sw o e) P := by
      intro f
      induction f with
      | zero =>
        intro s m st w5 hs hw5 hR hQ
        have hle : m 204 (Int32.toNatClampNeg (qi mb)) ≤ qi s := by rw [r4 m st hR]; exact (qi_le (by omega) (by omega)).mpr (by omega)
        refine bMo_form_183 hX hw5 imb (fun _ => ?_) (fun w => absurd hle w)
        rw [qi_1]
        refine nxt m st _ w5 (Or.inr (Or.inl ⟨_, rfl⟩)) hw5 hR (fun q => ⟨(hQ.1 q).1, fun x y h1 h2 h3 => (hQ.1 q).2 x y h1 h2 (Or.inl (by omega)) h3⟩) ?_
        rcases hQ.2 with ⟨q1, q2⟩ | q
        · exact Or.inl ⟨kcl_of ok (fun x y h1 h2 h3 => q2 x y h1 h2 (Or.inl (by omega)) h3), q1⟩
        · exact Or.inr q
      | succ f ih =>
        intro s m st w5 hs hw5 hR hQ
        have hle : ¬ m 204 (Int32.toNatClampNeg (qi mb)) ≤ qi s := by rw [r4 m st hR]; exact fun w => absurd ((qi_le (by omega) (by omega)).mp w) (by omega)
        refine bMo_form_183 hX hw5 imb (fun w => absurd w hle) (fun _ => ?_)
        have inner : ∀ f2 r m st, r + f2 = s → R m st → Q s r m st → QW (d + 2) mMo_form 197 (lMo_form_197 (qi z) (qi mb) (qi kk) (qi s) (qi r)) [] (hpo X m sw o e) P := by
          intro f2
          induction f2 with
          | zero =>
            intro r m st hr hR hQ
            have hle : qi s ≤ qi r := (qi_le (by omega) (by omega)).mpr (by omega)
            refine bMo_form_197 hX (fun _ => ?_) (fun w => absurd hle w)
            rw [qi_1]
            refine ih (s + 1) m st _ (by omega) (Or.inr (Or.inl ⟨_, rfl⟩)) hR ⟨fun q => ⟨(hQ.1 q).1, fun x y h1 h2 h3 h4 => (hQ.1 q).2 x y h1 h2 (by omega) h4⟩, ?_⟩
            rcases hQ.2 with ⟨q1, q2⟩ | q
            · exact Or.inl ⟨q1, fun x y h1 h2 h3 h4 => q2 x y h1 h2 (by omega) h4⟩
            · exact Or.inr q
          | succ f2 ih2 =>
            intro r m st hr hR hQ
            have hle : ¬ qi s ≤ qi r := fun w => absurd ((qi_le (by omega) (by omega)).mp w) (by omega)
            have hm := rm m st hR
            refine bMo_form_197 hX (fun w => absurd w hle) (fun _ => ?_)
            refine cMo_areOne hX hm (by omega) (by omega) (fun ho => qcl_i (bMo_form_214 hX (fun w => absurd w (by decide)) (fun _ => ?_))) (fun ho => qcl_i (bMo_form_214 hX (fun _ => bMo_form_227 hX ?_) (fun w => absurd rfl w)))
            · have hone := snd_one ok hR.2.1.1 (by omega) (by omega) ho
              refine cMo_join (st := st) hX hm (by rw [rn m st hR]; exact hR.2.1) (by omega) (by omega) ho (fun x hx => ⟨hR.2.2.2.1 x hx, (hR.2.2.2.2 x hx).1⟩) (fun m' f1 f2' f3 f4 f5 f6 => qcl_v (bMo_form_227 hX ?_))
              rw [rn m st hR] at f2'
              have hR' : R m' (rst st s r) := ⟨fun j q a1 a2 => by rw [f1 j q a1 a2]; exact hR.1 j q a1 a2, f2', fun a b ha hb' q => f3 a b ha hb' (hR.2.2.1 a b ha hb' q), f6, stv_join ok hR.2.2.2.2 (by omega) (by omega) hone⟩
              have mono : cnF (FF D (grp m z)) ≤ cnF (FF D (grp m' z)) := cnF_mono (fun a b q => FF_m ok f3 q)
              rw [qi_1]
              by_cases hful : ful D (grp m z) s r
              · have same := f5 hful
                refine ih2 (r + 1) m' _ (by omega) hR' ⟨fun q => ?_, ?_⟩
                · obtain ⟨q1, q2⟩ := hQ.1 q
                  refine ⟨fun a ha => by rw [same a ha]; exact q1 a ha, fun x y h1 h2 h3 h4 => ?_⟩
                  by_cases exy : x = s ∧ y = r
                  · rw [exy.1, exy.2]; exact rst_sr
                  · exact rst_eq (q2 x y h1 h2 (by omega) h4)
                · rcases hQ.2 with ⟨q1, q2⟩ | q
                  · refine Or.inl ⟨fun a ha => by rw [same a ha]; exact q1 a ha, fun x y h1 h2 h3 h4 => ?_⟩
                    by_cases exy : x = s ∧ y = r
                    · rw [exy.1, exy.2]; exact (o1g m q1 s r (by omega) (by omega)).2.mp hful
                    · exact q2 x y h1 h2 (by omega) h4
                  · exact Or.inr (by omega)
              · have lt : cnF (FF D (grp m z)) < cnF (FF D (grp m' z)) := by
                  refine cnF_lt (s := s) (t := r) (fun _ => Or.inl rfl) (fun _ _ q => FF_s ok q) (fun _ _ _ q1 q2 => FF_t ok q1 q2) (fun a b q => FF_m ok f3 q) (fun _ _ q => FF_s ok q) (fun _ _ _ q1 q2 => FF_t ok q1 q2) (by omega) (by omega) (fun q => ?_) (Or.inr ⟨by omega, by omega, ho.1, f4⟩)
                  rcases q with q | q
                  · omega
                  · exact hful q.2.2.2
                refine ih2 (r + 1) m' _ (by omega) hR' ⟨fun q => ?_, Or.inr ?_⟩
                · obtain ⟨q1, q2⟩ := hQ.1 q
                  exact absurd ((o1g m q1 s r (by omega) (by omega)).2.mpr (q s r (by omega) (by omega) ((o1g m q1 s r (by omega) (by omega)).1.mp ho))) hful
                · rcases hQ.2 with ⟨q1, q2⟩ | q
                  · have : cnF (FF D (grp m1 z)) ≤ cnF (FF D (grp m z)) := cnF_mono (fun a b q => FF_m ok (fun x y hx hy w => by rw [q1 x hx, q1 y hy]; exact w) q)
                    omega
                  · omega
            · rw [qi_1]
              refine ih2 (r + 1) m st (by omega) hR ⟨fun q => ?_, ?_⟩
              · obtain ⟨q1, q2⟩ := hQ.1 q
                refine ⟨q1, fun x y h1 h2 h3 h4 => ?_⟩
                by_cases exy : x = s ∧ y = r
                · rw [exy.1, exy.2] at h4
                  exact absurd ((o1g m q1 s r (by omega) (by omega)).1.mpr h4) ho
                · exact q2 x y h1 h2 (by omega) h4
              · rcases hQ.2 with ⟨q1, q2⟩ | q
                · refine Or.inl ⟨q1, fun x y h1 h2 h3 h4 => ?_⟩
                  by_cases exy : x = s ∧ y = r
                  · rw [exy.1, exy.2] at h4
                    exact absurd ((o1g m q1 s r (by omega) (by omega)).1.mpr h4) ho
                  · exact q2 x y h1 h2 (by omega) h4
                · exact Or.inr q
        exact inner s 0 m st (by omega) hR hQ
    exact outer (dns D) 0 m1 st1 w5 (by omega) hw5 hR1 ⟨fun _ => ⟨fun _ _ => rfl, fun x y h1 h2 h3 => absurd h3 (by omega)⟩, Or.inl ⟨fun _ _ => rfl, fun x y h1 h2 h3 => absurd h3 (by omega)⟩⟩
  have lp : ∀ f kk m st w4 w5, kk + f = 4 → qfr w4 → qfr w5 → R m st → (kcl D (grp m z) ∨ kk ≤ cnF (FF D (grp m z))) → (kk = 4 → kcl D (grp m z) ∧ ∀ x y, y < x → x < dns D → on1 D (grp m z) x y → st x = st y) → QW (d + 2) mMo_form 175 (lMo_form_175 (qi z) (qi mb) (qi kk) w4 w5) [] (hpo X m sw o e) P := by
    intro f
    induction f with
    | zero =>
      intro kk m st w4 w5 hk hw4 hw5 hR h1 h2
      obtain rfl : kk = 4 := by omega
      have hle : (4 : Int32) ≤ qi 4 := by decide
      exact bMo_form_175 hX hw4 hw5 (fun _ => k m st hR.1 hR.2.1 hR.2.2.1 (h2 rfl).1 hR.2.2.2.1 hR.2.2.2.2 (h2 rfl).2) (fun w => absurd hle w)
    | succ f ih =>
      intro kk m st w4 w5 hk hw4 hw5 hR h1 h2
      refine bMo_form_175 hX hw4 hw5 (fun w => absurd ((qi_le (a := 4) (by omega) (by omega)).mp w) (by omega)) (fun _ => ?_)
      refine rnd kk m st w5 (by omega) hw5 hR (fun m' st' w4' w5' g1 g2 g3 g4 g5 => ih (kk + 1) m' st' w4' w5' (by omega) g1 g2 g3 ?_ (fun q4e => ?_))
      · have keep : kcl D (grp m z) → (∀ a, a < 32 → grp m' z a = grp m z a) → kcl D (grp m' z) := by
          intro q1 q2 x y hx hy ho
          have := (ok.2.2.2.1 x hx).1
          obtain ⟨a1, c, a2, a3, a4⟩ := ho
          rw [q2 _ (by omega), q2 _ (by omega)] at a4
          intro c' hc'
          rw [q2 _ (by omega), q2 _ (by omega)]
          exact q1 x y hx hy ⟨a1, c, a2, a3, a4⟩ c' hc'
        rcases g5 with ⟨q1, q2⟩ | q
        · exact Or.inl (keep q1 q2)
        · rcases h1 with h1 | h1
          · exact Or.inl (keep h1 (g4 h1).1)
          · exact Or.inr (by omega)
      · have kc : kcl D (grp m z) := by
          rcases h1 with h1 | h1
          · exact h1
          · intro x y hx hy ho
            have := cnF_all (F := FF D (grp m z)) (fun _ => Or.inl rfl) (fun _ _ q => FF_s ok q) (fun _ _ _ q1 q2 => FF_t ok q1 q2) (by omega) (s := x) (t := y) (by omega) (by omega)
            rcases this with q | q
            · rw [q]; exact fun c _ => rfl
            · exact q.2.2.2
        obtain ⟨q1, q2⟩ := g4 kc
        refine ⟨fun x y hx hy ho => ?_, fun x y h1 h2 ho => ?_⟩
        · have := (ok.2.2.2.1 x hx).1
          obtain ⟨a1, c, a2, a3, a4⟩ := ho
          rw [q1 _ (by omega), q1 _ (by omega)] at a4
          intro c' hc'
          rw [q1 _ (by omega), q1 _ (by omega)]
          exact kc x y hx hy ⟨a1, c, a2, a3, a4⟩ c' hc'
        · have := (ok.2.2.2.1 x h2).1
          obtain ⟨a1, c, a2, a3, a4⟩ := ho
          rw [q1 _ (by omega), q1 _ (by omega)] at a4
          exact q2 x y h1 h2 ⟨a1, c, a2, a3, a4⟩
  exact lp 4 0 mr (fun s => s) w4 w5 (by omega) hw4 hw5 ⟨fun _ _ _ _ => rfl, hc, fun _ _ _ _ q => q, hst, fun s _ => ⟨Nat.le_refl _, rfl, Or.inl rfl⟩⟩ (Or.inr (Nat.zero_le _)) (fun q => absurd q (by omega))
theorem cMo_form (hX : X.length = 13) (hz : z < 2) (hb : mbk mem mb D)
    (k : ∀ m' nn st, (∀ j q, ¬ ((j = 219 ∨ j = 220) ∧ 32 * z ≤ q ∧ q < 32 * z + 32) → ¬ (j = 221 ∧ q = z) → ¬ (j = 222 ∧ 4 * z ≤ q ∧ q < 4 * z + 4) → m' j q = mem j q) → mfo D m' z nn st → P (.inl none, hpo X m' sw o e)) : QW (d + 2) mMo_form 0 (qen 6 [.ref 193, .int (qi z), .int (qi mb)]) [] (hpo X mem sw o e) P := by
  have ok := hb.1
  have hmb := hb.2.1
  have q4' := ok.1.2
  have q6 := ok.2.1
  have q3 := ok.2.2.1.2
  have imb : inx (qi mb) 15 := qi_inx hmb (by omega)
  have Nmb : Int32.toNatClampNeg (qi mb) = mb := qi_N (by omega)
  have e6 : (6 : Int32) * qi mb = qi (6 * mb) := by rw [show (6 : Int32) = qi 6 from rfl, qi_mul]
  have e3 : (3 : Int32) * qi mb = qi (3 * mb) := by rw [show (3 : Int32) = qi 3 from rfl, qi_mul]
  let FR : (Nat → Nat → Int32) → Prop := fun m => ∀ j q, ¬ ((j = 219 ∨ j = 220) ∧ 32 * z ≤ q ∧ q < 32 * z + 32) → ¬ (j = 221 ∧ q = z) → ¬ (j = 222 ∧ 4 * z ≤ q ∧ q < 4 * z + 4) → m j q = mem j q
  -- the last part: stand-ins and rounds
  have fin : ∀ m nn w4 w5, qfr w4 → qfr w5 → FR m → fsm m mem z mb nn D → (∀ i, i < dnc D → ∃ a b, nd D nn a ∧ nd D nn b ∧ cdn (num2 m z) a = dlf D i ∧ cdn (num2 m z) b = drg D i ∧ (¬ dls D i → grp m z a = grp m z b)) → (∀ i, i < dno D → kno m z nn D (dou D i)) → QW (d + 2) mMo_form 146 (lMo_form_146 (qi z) (qi mb) 0 w4 w5) [] (hpo X m sw o e) P := by
    intro m nn w4 w5 hw4 hw5 hfr hfs hE hO
    have hm := hfs.1
    have hf0 := hm.2.2.1
    have lp : ∀ f s m2, s + f = dns D → (∀ j q, ¬ (j = 222 ∧ 4 * z ≤ q ∧ q < 4 * z + 4) → m2 j q = m j q) → (∀ x, x < s → m2 222 (4 * z + x) = qi x) → QW (d + 2) mMo_form 146 (lMo_form_146 (qi z) (qi mb) (qi s) w4 w5) [] (hpo X m2 sw o e) P := by
      intro f
      induction f with
      | zero =>
        intro s m2 hs hf2 hx
        obtain rfl : s = dns D := by omega
        have e4 : m2 204 (Int32.toNatClampNeg (qi mb)) = qi (dns D) := by rw [Nmb, hf2 _ _ (by omega), hf0 _ _ (by omega)]; exact hb.2.2.2.1
        have hle : m2 204 (Int32.toNatClampNeg (qi mb)) ≤ qi (dns D) := by rw [e4]; exact Int32.le_refl _
        have gg : grp m2 z = grp m z := funext fun a => by unfold grp; rw [hf2 _ _ (by omega)]
        have nu2 : num2 m2 z = num2 m z := funext fun a => by unfold num2; rw [hf2 _ _ (by omega)]
        refine bMo_form_146 hX hw4 hw5 imb (fun _ => ?_) (fun w => absurd hle w) (fun w => absurd hle w)
        refine cMo_rounds hX (mst_to hm (hf2 _ _ (by omega)) (fun q _ _ => hf2 _ _ (by omega)) (fun j q hj => hf2 _ _ (by omega))) (by rw [gg, nu2]; exact hfs.2) hx hw4 hw5 (fun m' st f1 c1 p1 K1 s1 v1 t1 => ?_)
        rw [nu2] at c1
        have nu' : num2 m' z = num2 m z := by
          rw [← nu2]
          exact funext fun i => by unfold num2; rw [f1 _ _ (by omega) (by omega)]
        have hok := hm.2.2.2.2.2.1
        have hu := hm.2.2.2.2.2.2
        have h15 := hm.2.2.2.2.1
        have all : ∀ v, uN D v ↔ ∃ i, i < nn ∧ num2 m z i = v := by
          intro v
          constructor
          · rintro ⟨hN, hv⟩
            have kn : kno m z nn D v := by
              rcases hv with ⟨i, hi, rfl | rfl⟩ | ⟨i, hi, rfl⟩
              · obtain ⟨a, b, t1, t2, t3, t4, t5⟩ := hE i hi
                exact ⟨a, t1, t3⟩
              · obtain ⟨a, b, t1, t2, t3, t4, t5⟩ := hE i hi
                exact ⟨b, t2, t4⟩
              · exact hO i hi
            obtain ⟨a, ha, ea⟩ := kn
            have la := nd_lt ok ha
            unfold cdn at ea
            by_cases a12 : a < 12
            · rw [if_pos a12] at ea
              rw [← ea] at hN
              exact absurd hN (cN a12)
            · rw [if_neg a12] at ea
              exact ⟨a - 12, by omega, ea⟩
          · rintro ⟨i, hi, rfl⟩
            exact hu i hi
        have E' : ecl D nn (num2 m z) (grp m' z) := by
          intro i hi hl
          obtain ⟨a, b, t1, t2, t3, t4, t5⟩ := hE i hi
          have := nd_lt ok t1
          have := nd_lt ok t2
          exact ⟨a, b, t1, t2, t3, t4, p1 a b (by omega) (by omega) (by rw [gg]; exact t5 hl)⟩
        have fr := frm_of ok hok all c1.1 E' K1
        refine k m' nn st (fun j q a1 a2 a3 => by rw [f1 j q (by omega) a3, hf2 j q a3]; exact hfr j q a1 a2 a3) ⟨hz, h15, by rw [f1 _ _ (by omega) (by omega), hf2 _ _ (by omega)]; exact hm.2.2.2.1, by rw [nu']; exact fr, fun s hs => ?_⟩
        obtain ⟨v1a, v1b, v1c⟩ := v1 s hs
        refine ⟨s1 s hs, ⟨fun q => ⟨hs, fun r hr ho => ?_⟩, fun q => ?_⟩, v1a⟩
        · have := t1 s r hr hs ((frm_one ok fr hs (by omega)).mpr (one_s ok (by omega) hs ho))
          have := (v1 r (by omega)).1
          omega
        · apply Classical.byContradiction
          intro w
          rcases v1c with v1c | v1c
          · exact w v1c.symm
          · exact q.2 (st s) (by omega) (one_s ok hs (by omega) v1c)
      | succ f ih =>
        intro s m2 hs hf2 hx
        have e4 : m2 204 (Int32.toNatClampNeg (qi mb)) = qi (dns D) := by rw [Nmb, hf2 _ _ (by omega), hf0 _ _ (by omega)]; exact hb.2.2.2.1
        have hle : ¬ m2 204 (Int32.toNatClampNeg (qi mb)) ≤ qi s := by rw [e4]; exact fun w => absurd ((qi_le (by omega) (by omega)).mp w) (by omega)
        refine bMo_form_146 hX hw4 hw5 imb (fun w => absurd w hle) (fun _ => by rw [qf4]; exact qi_inx (by omega) (by omega)) (fun _ => ?_)
        rw [qf4, qi_N (by omega), qi_1]
        refine ih (s + 1) _ (by omega) (fun j q a1 => by rw [mup_q, if_neg (by omega)]; exact hf2 j q a1) (fun x hx2 => ?_)
        by_cases ex : x = s
        · rw [ex, mup_at]
        · rw [mup_sl (by omega)]; exact hx x (by omega)
    exact lp (dns D) 0 m (by omega) (fun _ _ _ => rfl) (fun x hx => absurd hx (by omega))
  -- how what is known goes over
  have kE : ∀ {m m' : Nat → Nat → Int32} {n n' i : Nat}, n ≤ n' → (∀ x, nd D n x → cdn (num2 m' z) x = cdn (num2 m z) x ∧ grp m' z x = grp m z x) → (∃ a b, nd D n a ∧ nd D n b ∧ cdn (num2 m z) a = dlf D i ∧ cdn (num2 m z) b = drg D i ∧ (¬ dls D i → grp m z a = grp m z b)) → ∃ a b, nd D n' a ∧ nd D n' b ∧ cdn (num2 m' z) a = dlf D i ∧ cdn (num2 m' z) b = drg D i ∧ (¬ dls D i → grp m' z a = grp m' z b) := by
    rintro m m' n n' i hn hx ⟨a, b, t1, t2, t3, t4, t5⟩
    exact ⟨a, b, nd_mono t1 hn, nd_mono t2 hn, by rw [(hx a t1).1]; exact t3, by rw [(hx b t2).1]; exact t4, fun q => by rw [(hx a t1).2, (hx b t2).2]; exact t5 q⟩
  -- the outputs
  have outs : ∀ f i m nn w4 w5, i + f = dno D → qfr w4 → qfr w5 → FR m → fsm m mem z mb nn D → nn ≤ 12 + i → (∀ i, i < dnc D → ∃ a b, nd D nn a ∧ nd D nn b ∧ cdn (num2 m z) a = dlf D i ∧ cdn (num2 m z) b = drg D i ∧ (¬ dls D i → grp m z a = grp m z b)) → (∀ x, x < i → kno m z nn D (dou D x)) → QW (d + 2) mMo_form 112 (lMo_form_112 (qi z) (qi mb) (qi (3 * mb + i)) w4 w5) [] (hpo X m sw o e) P := by
    intro f
    induction f with
    | zero =>
      intro i m nn w4 w5 hi hw4 hw5 hfr hfs hnn hE hO
      have e2 : (3 * qi mb : Int32) + m 202 (Int32.toNatClampNeg (qi mb)) = qi (3 * mb + dno D) := by rw [Nmb, hfs.1.2.2.1 _ _ (by omega), hb.2.2.1, e3, qi_add]
      have hle : (3 * qi mb : Int32) + m 202 (Int32.toNatClampNeg (qi mb)) ≤ qi (3 * mb + i) := by rw [e2]; exact (qi_le (by omega) (by omega)).mpr (by omega)
      exact bMo_form_112 hX hw4 hw5 imb (fun _ => fin m nn w4 w5 hw4 hw5 hfr hfs hE (fun x hx => hO x (by omega))) (fun w => absurd hle w) (fun w => absurd hle w)
    | succ f ih =>
      intro i m nn w4 w5 hi hw4 hw5 hfr hfs hnn hE hO
      have e2 : (3 * qi mb : Int32) + m 202 (Int32.toNatClampNeg (qi mb)) = qi (3 * mb + dno D) := by rw [Nmb, hfs.1.2.2.1 _ _ (by omega), hb.2.2.1, e3, qi_add]
      have hle : ¬ (3 * qi mb : Int32) + m 202 (Int32.toNatClampNeg (qi mb)) ≤ qi (3 * mb + i) := by rw [e2]; exact fun w => absurd ((qi_le (by omega) (by omega)).mp w) (by omega)
      refine bMo_form_112 hX hw4 hw5 imb (fun w => absurd w hle) (fun _ => qi_inx (by omega) (by omega)) (fun _ => ?_)
      rw [qi_N (by omega), hfs.1.2.2.1 _ _ (by omega), hb.2.2.2.2.2.2.1 i (by omega)]
      refine cMo_nodeS hX hfs (by omega) (ok_o ok (by omega)) (fun m' nn' a g1 g2 g3 g4 g5 g6 g7 => qcl_i (bMo_form_137 hX hw4 hw5 ?_))
      rw [qi_1, show 3 * mb + i + 1 = 3 * mb + (i + 1) by omega]
      refine ih (i + 1) m' nn' w4 w5 (by omega) hw4 hw5 (fun j q a1 a2 a3 => by rw [g5 j q a1 a2]; exact hfr j q a1 a2 a3) g1 (by omega) (fun i hi => kE g2 g4 (hE i hi)) (fun x hx => ?_)
      by_cases ex : x = i
      · rw [ex]; exact ⟨a, g6, g7⟩
      · obtain ⟨a', t1, t2⟩ := hO x (by omega)
        exact ⟨a', nd_mono t1 g2, by rw [(g4 a' t1).1]; exact t2⟩
  -- the conditions
  have cons : ∀ f i m nn w4 w5, i + f = dnc D → qfr w4 → qfr w5 → FR m → fsm m mem z mb nn D → nn ≤ 2 * i → (∀ x, x < i → ∃ a b, nd D nn a ∧ nd D nn b ∧ cdn (num2 m z) a = dlf D x ∧ cdn (num2 m z) b = drg D x ∧ (¬ dls D x → grp m z a = grp m z b)) → QW (d + 2) mMo_form 43 (lMo_form_43 (qi z) (qi mb) (qi (6 * mb + i)) w4 w5) [] (hpo X m sw o e) P := by
    intro f
    induction f with
    | zero =>
      intro i m nn w4 w5 hi hw4 hw5 hfr hfs hnn hE
      have e2 : (6 * qi mb : Int32) + m 207 (Int32.toNatClampNeg (qi mb)) = qi (6 * mb + dnc D) := by rw [Nmb, hfs.1.2.2.1 _ _ (by omega), hb.2.2.2.2.1, e6, qi_add]
      have hle : (6 * qi mb : Int32) + m 207 (Int32.toNatClampNeg (qi mb)) ≤ qi (6 * mb + i) := by rw [e2]; exact (qi_le (by omega) (by omega)).mpr (by omega)
      refine bMo_form_43 hX hw4 hw5 imb (fun _ => ?_) (fun w => absurd hle w) (fun w => absurd hle w)
      rw [e3]
      exact outs (dno D) 0 m nn w4 w5 (by omega) hw4 hw5 hfr hfs (by omega) (fun x hx => hE x (by omega)) (fun x hx => absurd hx (by omega))
    | succ f ih =>
      intro i m nn w4 w5 hi hw4 hw5 hfr hfs hnn hE
      have e2 : (6 * qi mb : Int32) + m 207 (Int32.toNatClampNeg (qi mb)) = qi (6 * mb + dnc D) := by rw [Nmb, hfs.1.2.2.1 _ _ (by omega), hb.2.2.2.2.1, e6, qi_add]
      have hle : ¬ (6 * qi mb : Int32) + m 207 (Int32.toNatClampNeg (qi mb)) ≤ qi (6 * mb + i) := by rw [e2]; exact fun w => absurd ((qi_le (by omega) (by omega)).mp w) (by omega)
      have ii : inx (qi (6 * mb + i)) 90 := qi_inx (by omega) (by omega)
      have NI : Int32.toNatClampNeg (qi (6 * mb + i)) = 6 * mb + i := qi_N (by omega)
      obtain ⟨l1, l2, l3⟩ := hb.2.2.2.2.2.2.2 i (by omega)
      obtain ⟨v1, v2⟩ := ok_l ok (show i < dnc D by omega)
      refine bMo_form_43 hX hw4 hw5 imb (fun w => absurd w hle) (fun _ => ii) (fun _ => ?_)
      rw [NI, hfs.1.2.2.1 _ _ (by omega), l1]
      refine cMo_nodeS hX hfs (by omega) v1 (fun m2 n2 a g1 g2 g3 g4 g5 g6 g7 => qcl_i (bMo_form_69 hX hw4 hw5 ii ?_))
      rw [NI, g1.1.2.2.1 _ _ (by omega), l2]
      refine cMo_nodeS hX g1 (by omega) v2 (fun m3 n3 b p1 p2 p3 p4 p5 p6 p7 => qcl_i (bMo_form_82 hX hw5 ii (fun w => ?_) (fun w => ?_)))
      · rw [NI, p1.1.2.2.1 _ _ (by omega)] at w
        have hl : dls D i := l3.mpr w
        refine bMo_form_102 hX ?_
        rw [qi_1, show 6 * mb + i + 1 = 6 * mb + (i + 1) by omega]
        refine ih (i + 1) m3 n3 _ _ (by omega) (Or.inr (Or.inl ⟨_, rfl⟩)) (Or.inr (Or.inl ⟨_, rfl⟩)) (fun j q a1 a2 a3 => by rw [p5 j q a1 a2, g5 j q a1 a2]; exact hfr j q a1 a2 a3) p1 (by omega) (fun x hx => ?_)
        by_cases ex : x = i
        · subst ex
          exact ⟨a, b, nd_mono g6 p2, p6, by rw [(p4 a g6).1]; exact g7, p7, fun q => absurd hl q⟩
        · exact kE p2 p4 (kE g2 g4 (hE x (by omega)))
      · rw [NI, p1.1.2.2.1 _ _ (by omega)] at w
        have hl : ¬ dls D i := fun q => l3.mp q w
        have ha3 : nd D n3 a := nd_mono g6 p2
        have ea3 : cdn (num2 m3 z) a = dlf D i := by rw [(p4 a g6).1]; exact g7
        have la := nd_lt ok ha3
        have lb := nd_lt ok p6
        have n15 := p1.1.2.2.2.2.1
        refine cMo_unite hX hz (by omega) (by omega) (fun m4 hm hm2 => qcl_v (bMo_form_102 hX ?_))
        have nu4 : num2 m4 z = num2 m3 z := funext fun x => by unfold num2; rw [hm2 _ _ (by omega)]
        have f4 : fsm m4 mem z mb n3 D := by
          refine ⟨mst_to p1.1 (hm2 _ _ (by omega)) (fun q _ _ => hm2 _ _ (by omega)) (fun j q hj => hm2 _ _ (by omega)), ?_⟩
          rw [nu4]
          refine mcs_congr (mcs_mrg p1.2 ha3 p6 ?_) (fun x hx => hm x (by have := nd_lt ok hx; omega))
          rw [ea3, p7]
          exact (eqv_clo D).2.2.2.1 i (by omega) hl
        rw [qi_1, show 6 * mb + i + 1 = 6 * mb + (i + 1) by omega]
        refine ih (i + 1) m4 n3 _ _ (by omega) (Or.inr (Or.inl ⟨_, rfl⟩)) (Or.inr (Or.inl ⟨_, rfl⟩)) (fun j q a1 a2 a3 => by rw [hm2 j q (by omega), p5 j q a1 a2, g5 j q a1 a2]; exact hfr j q a1 a2 a3) f4 (by omega) (fun x hx => ?_)
        by_cases ex : x = i
        · subst ex
          refine ⟨a, b, ha3, p6, by rw [nu4]; exact ea3, by rw [nu4]; exact p7, fun _ => ?_⟩
          rw [hm a (by omega), hm b (by omega)]
          exact mrg_xy.symm
        · obtain ⟨a', b', t1, t2, t3, t4, t5⟩ := kE p2 p4 (kE g2 g4 (hE x (by omega)))
          have := nd_lt ok t1
          have := nd_lt ok t2
          refine ⟨a', b', t1, t2, by rw [nu4]; exact t3, by rw [nu4]; exact t4, fun q => ?_⟩
          rw [hm a' (by omega), hm b' (by omega)]
          exact mrg_eq (t5 q)
  -- the groups at the start
  have lp0 : ∀ f i m, i + f = 32 → (∀ j q, ¬ (j = 219 ∧ 32 * z ≤ q ∧ q < 32 * z + 32) → m j q = mup mem 221 z 0 j q) → (∀ x, x < i → grp m z x = qi (32 * z + x)) → QW (d + 2) mMo_form 9 (lMo_form_9 (qi z) (qi mb) (qi i)) [] (hpo X m sw o e) P := by
    intro f
    induction f with
    | zero =>
      intro i m hi hf hx
      obtain rfl : i = 32 := by omega
      have hle : (32 : Int32) ≤ qi 32 := by decide
      refine bMo_form_9 hX (fun _ => ?_) (fun w => absurd hle w) (fun w => absurd hle w)
      rw [e6]
      refine cons (dnc D) 0 m 0 .unset .unset (by omega) (Or.inl rfl) (Or.inl rfl) (fun j q a1 a2 a3 => by rw [hf j q (by omega), mup_q, if_neg a2]) ⟨⟨hz, hb, fun j q hj => by rw [hf j q (by omega), mup_q, if_neg (by omega)], by rw [hf _ _ (by omega), mup_at]; rfl, by omega, ⟨fun i hi => absurd hi (by omega), fun i j hi => absurd hi (by omega)⟩, fun i hi => absurd hi (by omega)⟩, fun a b ha hb' hab => ?_, fun a ha => ⟨a, ha, hx a (by have := nd_lt ok ha; omega)⟩⟩ (by omega) (fun x hx => absurd hx (by omega))
      have la := nd_lt ok ha
      have lb := nd_lt ok hb'
      rw [hx a (by omega), hx b (by omega)] at hab
      have := qi_inj (by omega) (by omega) hab
      rw [show a = b by omega]
      exact eqv_r _
    | succ f ih =>
      intro i m hi hf hx
      refine bMo_form_9 hX (fun w => absurd ((qi_le (a := 32) (by omega) (by omega)).mp w) (by omega)) (fun _ => by rw [qf32]; exact qi_inx (by omega) (by omega)) (fun _ => ?_)
      rw [qf32, qi_N (by omega), qi_1]
      refine ih (i + 1) _ (by omega) (fun j q a1 => by rw [mup_q, if_neg (by omega)]; exact hf j q a1) (fun x hx2 => ?_)
      unfold grp
      by_cases ex : x = i
      · rw [ex, mup_at]
      · rw [mup_sl (by omega)]; exact hx x (by omega)
  refine bMo_form_0 hX (qi_inx hz (by omega)) ?_
  rw [qi_N (by omega)]
  exact lp0 32 0 _ (by omega) (fun _ _ _ => rfl) (fun x hx => absurd hx (by omega))
end MF3
