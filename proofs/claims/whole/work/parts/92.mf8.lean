section MF8
variable {d : Nat} {P : qE → Prop} {X : qH} {sw : Bool} {o : Int64} {e : List Nat} {mem m0 : Nat → Nat → Int32} {D E : qD} {b1 b2 n1 n2 : Nat} {s1 s2 p : Nat → Nat} {z mb nn : Nat} {st : Nat → Nat}
theorem mbk_mono {m m' : Nat → Nat → Int32} (h : mbk m mb D) (hm : ∀ j q, 193 < j → j < 219 → m' j q = m j q) : mbk m' mb D := by
  obtain ⟨h1, h2, h3, h4, h5, h6, h7, h8⟩ := h
  refine ⟨h1, h2, ?_, ?_, ?_, fun s hs => ?_, fun i hi => ?_, fun i hi => ?_⟩
  · rw [hm _ _ (by omega) (by omega)]; exact h3
  · rw [hm _ _ (by omega) (by omega)]; exact h4
  · rw [hm _ _ (by omega) (by omega)]; exact h5
  · obtain ⟨g1, g2, g3⟩ := h6 s hs
    refine ⟨?_, ?_, fun c hc => ?_⟩
    · rw [hm _ _ (by omega) (by omega)]; exact g1
    · rw [hm _ _ (by omega) (by omega)]; exact g2
    · rw [hm _ _ (by omega) (by omega)]; exact g3 c hc
  · rw [hm _ _ (by omega) (by omega)]; exact h7 i hi
  · obtain ⟨g1, g2, g3⟩ := h8 i hi
    rw [hm 208 _ (by omega) (by omega), hm 209 _ (by omega) (by omega), hm 210 _ (by omega) (by omega)]
    exact ⟨g1, g2, g3⟩
theorem frm_congr {nu nu' g g' : Nat → Int32} (ok : okD D) (h : frm D nn nu g) (hn : ∀ i, i < nn → nu' i = nu i) (hg : ∀ a, nd D nn a → g' a = g a) : frm D nn nu' g' := by
  obtain ⟨⟨h1, h2⟩, h3, h4⟩ := h
  refine ⟨⟨fun i hi => ?_, fun i j hi hj hij => ?_⟩, fun v => ?_, fun a b ha hb => ?_⟩
  · rw [hn i hi]; exact h1 i hi
  · rw [hn i hi, hn j hj] at hij; exact h2 i j hi hj hij
  · rw [h3 v]
    constructor
    · rintro ⟨i, hi, ei⟩
      exact ⟨i, hi, by rw [hn i hi]; exact ei⟩
    · rintro ⟨i, hi, ei⟩
      exact ⟨i, hi, by rw [hn i hi] at ei; exact ei⟩
  · rw [hg a ha, hg b hb, cdn_old ok ha hn, cdn_old ok hb hn]
    exact h4 a b ha hb
theorem mfo_mono {m m' : Nat → Nat → Int32} (ok : okD D) (h : mfo D m z nn st) (h1 : m' 221 z = m 221 z) (h2 : ∀ j q, j = 219 ∨ j = 220 → 32 * z ≤ q → q < 32 * z + 32 → m' j q = m j q) (h3 : ∀ q, 4 * z ≤ q → q < 4 * z + 4 → m' 222 q = m 222 q) : mfo D m' z nn st := by
  obtain ⟨g1, g2, g3, g4, g5⟩ := h
  refine ⟨g1, g2, by rw [h1]; exact g3, frm_congr ok g4 (fun i hi => ?_) (fun a ha => ?_), fun s hs => ?_⟩
  · unfold num2
    rw [h2 220 _ (Or.inr rfl) (by omega) (by omega)]
  · have := nd_lt ok ha
    unfold grp
    rw [h2 219 _ (Or.inl rfl) (by omega) (by omega)]
  · have := ok.1.2
    rw [h3 _ (by omega) (by omega)]
    exact g5 s hs
theorem prg_dig (okA : okD D) (okB : okD E) : (∃ p, prg D E p ∧ ftp D E p) ↔ ∃ k, k < 256 ∧ okc D E k (dns D) ∧ ftp D E (dig k) := by
  have a4 := okA.1.2
  have b4 := okB.1.2
  constructor
  · rintro ⟨p, ⟨h1, h2⟩, h3⟩
    have hr : ∃ r : Nat → Nat, (∀ s, std D s → r s = p s) ∧ ∀ s, ¬ std D s → r s = 0 := by
      refine ⟨fun s => @ite _ (std D s) (Classical.propDecidable _) (p s) 0, fun s hs => ?_, fun s hs => ?_⟩
      · exact if_pos hs
      · exact if_neg hs
    obtain ⟨r, r1, r2⟩ := hr
    obtain ⟨k, hk, hd⟩ := dig_x r (fun s _ => by
      by_cases hs : std D s
      · rw [r1 s hs]
        have := (h1 s hs).1.1
        omega
      · rw [r2 s hs]; omega)
    have e1 : ∀ s, std D s → dig k s = p s := fun s hs => by
      have := hs.1
      rw [hd s (by omega), r1 s hs]
    refine ⟨k, hk, fun s hs => ⟨fun hs2 => ?_, fun hs2 => ?_⟩, ftp_eq (fun s hs => (e1 s hs).symm) h3⟩
    · rw [e1 s hs2]
      refine ⟨(h1 s hs2).1, (h1 s hs2).2, fun t ht ht2 q => ?_⟩
      rw [e1 t ht2] at q
      have := h2 t s ht2 hs2 q
      omega
    · rw [hd s (by omega), r2 s hs2]
  · rintro ⟨k, hk, h1, h2⟩
    refine ⟨dig k, ⟨fun s hs => ?_, fun s t hs ht q => ?_⟩, h2⟩
    · exact ⟨((h1 s hs.1).1 hs).1, ((h1 s hs.1).1 hs).2.1⟩
    · rcases Nat.lt_trichotomy s t with r | r | r
      · exact absurd q (((h1 t ht.1).1 ht).2.2 s r hs)
      · exact r
      · exact absurd q.symm (((h1 s hs.1).1 hs).2.2 t r ht)
theorem q3b (b : Nat) : (3 : Int32) * qi b = qi (3 * b) := by rw [show (3 : Int32) = qi 3 from rfl, qi_mul]
theorem cMo_alikeL (hX : X.length = 13) (a1 a2 : Int32) (hno : dno D = dno E) (hnA : ¬ Emp D) (hnB : ¬ Emp E) (hcat : cat2 D E)
    (kt : ∀ m', (ctS D (dns D) = ctS E (dns E) ∧ ∃ p, prg D E p ∧ ftp D E p) → (∀ j q, j ≠ 223 → m' j q = mem j q) → P (.inl (some (.int 1)), hpo X m' sw o e)) (kf : ∀ m', ¬ (ctS D (dns D) = ctS E (dns E) ∧ ∃ p, prg D E p ∧ ftp D E p) → (∀ j q, j ≠ 223 → m' j q = mem j q) → P (.inl (some (.int 0)), hpo X m' sw o e)) :
    ∀ f k m, k + f = 256 → (∀ j q, j ≠ 223 → m j q = mem j q) → mrd m m0 0 b1 n1 s1 D → mrd m m0 1 b2 n2 s2 E → (∀ k', k' < k → ¬ (okc D E k' (dns D) ∧ ftp D E (dig k'))) → QW (d + 5) mMo_alike 163 (lMo_alike_163 a1 a2 (qi b1) (qi b2) 0 0 (qi k)) [] (hpo X m sw o e) P := by
  intro f
  induction f with
  | zero =>
    intro k m hk hm hA hB hinv
    obtain rfl : k = 256 := by omega
    have hle : (256 : Int32) ≤ qi 256 := by decide
    refine bMo_alike_163 hX (fun _ => bMo_alike_227 hX rfl (kf m (fun q => ?_) hm)) (fun w => absurd hle w) (fun w => absurd hle w)
    obtain ⟨k', t1, t2⟩ := (prg_dig hA.1.1 hB.1.1).mp q.2
    exact hinv k' t1 t2
  | succ f ih =>
    intro k m hk hm hA hB hinv
    have hle : ¬ (256 : Int32) ≤ qi k := fun w => absurd ((qi_le (a := 256) (by omega) (by omega)).mp w) (by omega)
    have cA := ctS_le D (dns D)
    have cB := ctS_le E (dns E)
    have a4 := hA.1.1.1.2
    have b4 := hB.1.1.1.2
    refine bMo_alike_163 hX (fun w => absurd w hle) (fun _ w => absurd rfl w) (fun _ _ => cMo_leftOver (z := 0) hX (by omega) hA.1 hA.2.1 hA.2.2.2.2.2.2 (qcl_i (bMo_alike_182 hX (cMo_leftOver (z := 1) hX (by omega) hB.1 hB.2.1 hB.2.2.2.2.2.2 (qcl_i (bMo_alike_189 hX (fun w => ?_) (fun w => ?_)))))))
    · exact bMo_alike_227 hX rfl (kf m (fun q => w (by rw [q.1])) hm)
    · have ec := qi_inj (by omega) (by omega) w
      have nxt : ∀ m2, (∀ j q, j ≠ 223 → m2 j q = m j q) → ¬ (okc D E k (dns D) ∧ ftp D E (dig k)) → QW (d + 5) mMo_alike 218 (lMo_alike_218 a1 a2 (qi b1) (qi b2) 0 0 (qi k)) [] (hpo X m2 sw o e) P := by
        intro m2 h2 hn
        refine bMo_alike_218 hX (bMo_alike_219 hX ?_)
        rw [qi_1]
        refine ih (k + 1) m2 (by omega) (fun j q hj => by rw [h2 j q hj]; exact hm j q hj) (mrd_223 hA h2) (mrd_223 hB h2) (fun k' hk' => ?_)
        by_cases ek : k' = k
        · subst ek; exact hn
        · exact hinv k' (by omega)
      refine cMo_isPairing hX hA hB (by omega) (fun m2 hok h2 hpr => qcl_i (bMo_alike_201 hX (fun w => absurd w (by decide)) (fun _ => cMo_fits (d := d) (p := dig k) hX ⟨mrd_223 hA h2, mrd_223 hB h2, hnA, hnB, hcat, fun s hs => ⟨hpr s hs, ((hok s hs.1).1 hs).1, ((hok s hs.1).1 hs).2.1⟩⟩ hno (fun hft => qcl_i ?_) (fun hft => qcl_i ?_)))) (fun m2 hok h2 => qcl_i (bMo_alike_201 hX (fun _ => nxt m2 h2 (fun q => hok q.1)) (fun w => absurd rfl w)))
      · refine bMo_alike_211 hX (fun w => absurd w (by decide)) (fun _ => bMo_alike_219 hX ?_)
        have fin : ∀ y, QW (d + 5) mMo_alike 227 (lMo_alike_227 a1 a2 (qi b1) (qi b2) 0 1 y) [] (hpo X m2 sw o e) P := fun y => bMo_alike_227 hX rfl (kt m2 ⟨ec, (prg_dig hA.1.1 hB.1.1).mpr ⟨k, by omega, hok, hft⟩⟩ (fun j q hj => by rw [h2 j q hj]; exact hm j q hj))
        exact bMo_alike_163 hX (fun _ => fin _) (fun _ _ => fin _) (fun _ w => absurd w (by decide))
      · exact bMo_alike_211 hX (fun _ => nxt m2 h2 (fun q => hft q.2)) (fun w => absurd rfl w)
theorem cMo_alike68 {q1 q2 : Nat} (hX : X.length = 13) (h1 : mbk mem (3 * q1) D) (h2 : mbk mem (3 * q2) E) (hcat : cat2 D E)
    (k : ∀ m' (r : Int32), b01 r → (r = 1 ↔ Alk D E (mem 201 (3 * q1)) (mem 201 (3 * q2))) → m' 193 0 = 0 → (∀ j q, ¬ (j = 193 ∧ q = 0) → ¬ (219 ≤ j ∧ j < 224) → m' j q = mem j q) → P (.inl (some (.int r)), hpo X m' sw o e)) :
    QW (d + 5) mMo_alike 68 (lMo_alike_68 (qi q1) (qi q2)) [.int 0, .ref 193] (hpo X mem sw o e) P := by
  have hb1 := h1.2.1
  have hb2 := h2.2.1
  have e00 : (mup mem 193 0 0) 193 0 = 0 := mup_at _ _ _ _
  have f0 : ∀ j q, ¬ (j = 193 ∧ q = 0) → (mup mem 193 0 0) j q = mem j q := fun j q hj => by rw [mup_q, if_neg (by omega)]
  refine bMo_alike_68 hX (fun _ => ?_) (fun w => absurd (by rw [e00]; decide) w)
  rw [q3b, q3b]
  have g1 : mbk (mup mem 193 0 0) (3 * q1) D := mbk_mono h1 (fun j q _ _ => f0 _ _ (by omega))
  have g2 : mbk (mup mem 193 0 0) (3 * q2) E := mbk_mono h2 (fun j q _ _ => f0 _ _ (by omega))
  refine cMo_form (d := d + 2) (z := 0) hX (by omega) g1 (fun m1 n1 s1 u1 v1 => qcl_v (bMo_alike_95 hX ?_))
  have g3 : mbk m1 (3 * q2) E := mbk_mono g2 (fun j q _ _ => u1 _ _ (by omega) (by omega) (by omega))
  refine cMo_form (d := d + 2) (z := 1) hX (by omega) g3 (fun m2 n2 s2 u2 v2 => qcl_v (bMo_alike_102 hX ?_))
  have fr2 : ∀ j q, ¬ (219 ≤ j ∧ j < 224) → m2 j q = (mup mem 193 0 0) j q := fun j q hj => by rw [u2 _ _ (by omega) (by omega) (by omega), u1 _ _ (by omega) (by omega) (by omega)]
  have hA : mrd m2 (mup mem 193 0 0) 0 (3 * q1) n1 s1 D := ⟨g1, fr2, mfo_mono g1.1 v1 (u2 _ _ (by omega) (by omega) (by omega)) (fun j q hj y1 y2 => u2 _ _ (by omega) (by omega) (by omega)) (fun q y1 y2 => u2 _ _ (by omega) (by omega) (by omega))⟩
  have hB : mrd m2 (mup mem 193 0 0) 1 (3 * q2) n2 s2 E := ⟨g2, fr2, v2⟩
  have i1 : inx (qi (3 * q1)) 15 := qi_inx hb1 (by omega)
  have i2 : inx (qi (3 * q2)) 15 := qi_inx hb2 (by omega)
  have e1 : m2 201 (Int32.toNatClampNeg (qi (3 * q1))) = mem 201 (3 * q1) := by rw [qi_N (by omega), fr2 _ _ (by omega), f0 _ _ (by omega)]
  have e2 : m2 201 (Int32.toNatClampNeg (qi (3 * q2))) = mem 201 (3 * q2) := by rw [qi_N (by omega), fr2 _ _ (by omega), f0 _ _ (by omega)]
  have e3 : m2 202 (Int32.toNatClampNeg (qi (3 * q1))) = qi (dno D) := by rw [qi_N (by omega), fr2 _ _ (by omega)]; exact g1.2.2.1
  have e4 : m2 202 (Int32.toNatClampNeg (qi (3 * q2))) = qi (dno E) := by rw [qi_N (by omega), fr2 _ _ (by omega)]; exact g2.2.2.1
  have o1 := g1.1.2.2.1
  have o2 := g2.1.2.2.1
  have fr3 : ∀ m3 : Nat → Nat → Int32, (∀ j q, j ≠ 223 → m3 j q = m2 j q) → m3 193 0 = 0 ∧ ∀ j q, ¬ (j = 193 ∧ q = 0) → ¬ (219 ≤ j ∧ j < 224) → m3 j q = mem j q := by
    intro m3 h3
    refine ⟨by rw [h3 _ _ (by omega), fr2 _ _ (by omega)]; exact e00, fun j q hj hj2 => ?_⟩
    rw [h3 _ _ (by omega), fr2 _ _ hj2]; exact f0 _ _ hj
  have no : ∀ m3 : Nat → Nat → Int32, (∀ j q, j ≠ 223 → m3 j q = m2 j q) → ¬ Alk D E (mem 201 (3 * q1)) (mem 201 (3 * q2)) → P (.inl (some (.int 0)), hpo X m3 sw o e) := by
    intro m3 h3 hn
    exact k m3 0 (Or.inl rfl) ⟨fun q => absurd q (by decide), fun q => absurd q hn⟩ (fr3 m3 h3).1 (fr3 m3 h3).2
  have yes : ∀ m3 : Nat → Nat → Int32, (∀ j q, j ≠ 223 → m3 j q = m2 j q) → Alk D E (mem 201 (3 * q1)) (mem 201 (3 * q2)) → P (.inl (some (.int 1)), hpo X m3 sw o e) := by
    intro m3 h3 hn
    exact k m3 1 (Or.inr rfl) ⟨fun _ => hn, fun _ => rfl⟩ (fr3 m3 h3).1 (fr3 m3 h3).2
  have second : ∀ s0 : Int32, ((s0 = 1 ∧ Emp D) ∨ (s0 = 0 ∧ ¬ Emp D)) → QW (d + 5) mMo_alike 108 (lMo_alike_108 (qi q1) (qi q2) (qi (3 * q1)) (qi (3 * q2))) [.int s0] (hpo X m2 sw o e) P := by
    intro s0 hs0
    refine bMo_alike_108 hX i1 i2 (fun w => no m2 (fun _ _ _ => rfl) (fun q => w ?_)) (fun _ => i1) (fun _ => i2) (fun _ w => no m2 (fun _ _ _ => rfl) (fun q => w ?_)) (fun w w2 => ?_)
    · rw [e1, e2]; exact q.1
    · rw [e3, e4, q.2.1]
    · rw [e1, e2] at w
      rw [e3, e4] at w2
      have w2 := qi_inj (by omega) (by omega) w2
      have fin : ∀ y : Int32, ((y = 1 ∧ Emp E) ∨ (y = 0 ∧ ¬ Emp E)) → QW (d + 5) mMo_alike 151 (lMo_alike_151 (qi q1) (qi q2) (qi (3 * q1)) (qi (3 * q2)) s0) [.int y, .int s0] (hpo X m2 sw o e) P := by
        intro y hy
        refine bMo_alike_151 hX (fun q => ?_) (fun q => no m2 (fun _ _ _ => rfl) (fun r => q ?_))
        · rcases hs0 with ⟨rfl, hD⟩ | ⟨rfl, hD⟩
          · rcases hy with ⟨rfl, hE⟩ | ⟨rfl, hE⟩
            · have ff : ∀ x, QW (d + 5) mMo_alike 227 (lMo_alike_227 (qi q1) (qi q2) (qi (3 * q1)) (qi (3 * q2)) 1 1 x) [] (hpo X m2 sw o e) P := fun x => bMo_alike_227 hX rfl (yes m2 (fun _ _ _ => rfl) ⟨w, w2, Or.inl ⟨hD, hE⟩⟩)
              exact bMo_alike_163 hX (fun _ => ff _) (fun _ _ => ff _) (fun _ w => absurd w (by decide))
            · exact absurd q (by decide)
          · rcases hy with ⟨rfl, hE⟩ | ⟨rfl, hE⟩
            · exact absurd q (by decide)
            · exact cMo_alikeL (mem := m2) (d := d) hX (qi q1) (qi q2) w2 hD hE hcat (fun m3 h3 h4 => yes m3 h4 ⟨w, w2, Or.inr ⟨hD, hE, h3⟩⟩) (fun m3 h3 h4 => no m3 h4 (fun r => by
                rcases r.2.2 with r | r
                · exact hD r.1
                · exact h3 r.2.2)) 256 0 m2 (by omega) (fun _ _ _ => rfl) hA hB (fun k' hk' => absurd hk' (by omega))
        · rcases r.2.2 with r | r
          · rcases hs0 with ⟨rfl, hD⟩ | ⟨rfl, hD⟩
            · rcases hy with ⟨rfl, hE⟩ | ⟨rfl, hE⟩
              · rfl
              · exact absurd r.2 hE
            · exact absurd r.1 hD
          · rcases hs0 with ⟨rfl, hD⟩ | ⟨rfl, hD⟩
            · exact absurd hD r.1
            · rcases hy with ⟨rfl, hE⟩ | ⟨rfl, hE⟩
              · exact absurd hE r.2.1
              · rfl
      exact cMo_isEmpty (d := d + 3) (z := 1) hX hB (fun hE => qcl_i (fin 1 (Or.inl ⟨rfl, hE⟩))) (fun hE => qcl_i (fin 0 (Or.inr ⟨rfl, hE⟩)))
  exact cMo_isEmpty (d := d + 3) (z := 0) hX hA (fun hE => qcl_i (second 1 (Or.inl ⟨rfl, hE⟩))) (fun hE => qcl_i (second 0 (Or.inr ⟨rfl, hE⟩)))
theorem cMo_sources46 {q1 : Nat} (hX : X.length = 13) (h1 : mbk mem (3 * q1) D)
    (k : ∀ m' (r : Int32), (Emp D → r = 0) → (¬ Emp D → r = qi (ctS D (dns D))) → m' 193 0 = 0 → (∀ j q, ¬ (j = 193 ∧ q = 0) → ¬ (219 ≤ j ∧ j < 224) → m' j q = mem j q) → P (.inl (some (.int r)), hpo X m' sw o e)) :
    QW (d + 3) mMo_sources 46 (lMo_sources_46 (qi q1)) [.int 0, .ref 193] (hpo X mem sw o e) P := by
  have hb1 := h1.2.1
  have e00 : (mup mem 193 0 0) 193 0 = 0 := mup_at _ _ _ _
  have f0 : ∀ j q, ¬ (j = 193 ∧ q = 0) → (mup mem 193 0 0) j q = mem j q := fun j q hj => by rw [mup_q, if_neg (by omega)]
  refine bMo_sources_46 hX (fun _ => ?_) (fun w => absurd (by rw [e00]; decide) w)
  rw [q3b]
  have g1 : mbk (mup mem 193 0 0) (3 * q1) D := mbk_mono h1 (fun j q _ _ => f0 _ _ (by omega))
  refine cMo_form (d := d) (z := 0) hX (by omega) g1 (fun m1 n1 s1 u1 v1 => qcl_v (bMo_sources_66 hX ?_))
  have fr2 : ∀ j q, ¬ (219 ≤ j ∧ j < 224) → m1 j q = (mup mem 193 0 0) j q := fun j q hj => u1 _ _ (by omega) (by omega) (by omega)
  have hA : mrd m1 (mup mem 193 0 0) 0 (3 * q1) n1 s1 D := ⟨g1, fr2, v1⟩
  have c0 : m1 193 0 = 0 := by rw [fr2 _ _ (by omega)]; exact e00
  have c1 : ∀ j q, ¬ (j = 193 ∧ q = 0) → ¬ (219 ≤ j ∧ j < 224) → m1 j q = mem j q := fun j q hj hj2 => by rw [fr2 _ _ hj2]; exact f0 _ _ hj
  rw [q3b]
  refine cMo_isEmpty (d := d + 1) (z := 0) hX hA (fun hE => qcl_i (bMo_sources_74 hX (fun w => absurd w (by decide)) (fun _ => bMo_sources_89 hX (k m1 0 (fun _ => rfl) (fun w => absurd hE w) c0 c1)))) (fun hE => qcl_i (bMo_sources_74 hX (fun _ => ?_) (fun w => absurd rfl w)))
  rw [q3b]
  exact cMo_leftOver (z := 0) hX (by omega) hA.1 hA.2.1 hA.2.2.2.2.2.2 (qcl_i (bMo_sources_89 hX (k m1 _ (fun w => absurd w hE) (fun _ => rfl) c0 c1)))
end MF8
