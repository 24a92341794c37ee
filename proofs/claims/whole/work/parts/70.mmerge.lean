section MMR
variable {d : Nat} {P : qE → Prop} {X : qH} {sw : Bool} {o : Int64} {e : List Nat} {mem : Nat → Nat → Int32}
theorem cMo_merge {h n : Nat} {s y : Int32} {ct cu : qRw → Nat} (hX : X.length = 13) (hh : mem 193 29 = qi h) (hl : lsR mem 213 214 h ct) (hn : mem 193 26 = qi n) (hu : lsR mem 211 212 n cu) (hs : qsg s y) (hbd : ∀ r, ct r < 1073741824 ∧ cu r < 1073741824)
    (k1 : ∀ m' n', (∀ j q, ¬ (j = 193 ∧ q = 29) → ¬ (213 ≤ j ∧ j < 215) → m' j q = mem j q) → m' 193 29 = qi n' → lsR m' 213 214 n' (fun r => sgf s (ct r) (cu r)) → P (.inl (some (.int 1)), hpo X m' sw o e))
    (k0 : ∀ m', (∀ j q, ¬ (j = 193 ∧ q = 29) → ¬ (213 ≤ j ∧ j < 215) → m' j q = mem j q) → ¬ fts (fun r => sgf s (ct r) (cu r)) → P (.inl (some (.int 0)), hpo X m' sw o e)) : QW (d + 1) mMo_merge 0 (qen 8 [.ref 193, .int y]) [] (hpo X mem sw o e) P := by
  obtain ⟨ρ, κ, ⟨f1, f2, f3⟩, i1, i2⟩ := hl
  have hu' := hu
  have lp : ∀ f i kp m w5 w6 w7, qfr w5 → qfr w6 → qfr w7 → i + f = h → kp ≤ i → (∀ j q, ¬ (j = 193 ∧ q = 29) → ¬ (213 ≤ j ∧ j < 215) → m j q = mem j q) → (∀ x, i ≤ x → x < h → at3 m 213 x (ρ x) ∧ m 214 x = qi (κ x)) →
      (∃ sel : Nat → Nat, (∀ a, a < kp → sel a < i ∧ at3 m 213 a (ρ (sel a)) ∧ m 214 a = qi (sgf s (κ (sel a)) (cu (ρ (sel a)))) ∧ 0 < sgf s (κ (sel a)) (cu (ρ (sel a)))) ∧ (∀ a b, a < kp → b < kp → sel a = sel b → a = b) ∧ ∀ x, x < i → 0 < sgf s (κ x) (cu (ρ x)) → ∃ a, a < kp ∧ sel a = x) →
      QW (d + 1) mMo_merge 10 (lMo_merge_10 y (qi h) (qi kp) (qi i) w5 w6 w7) [] (hpo X m sw o e) P := by
    intro f
    induction f with
    | zero =>
      intro i kp m w5 w6 w7 hw5 hw6 hw7 hi hkp hfr hrest hsel
      obtain rfl : i = h := by omega
      obtain ⟨sel, s1, s2, s3⟩ := hsel
      have hle : qi i ≤ qi i := Int32.le_refl _
      have fr2 : ∀ j q, ¬ (j = 193 ∧ q = 29) → mup m 193 29 (qi kp) j q = m j q := fun j q a => by rw [mup_q, if_neg a]
      have hls : lsR (mup m 193 29 (qi kp)) 213 214 kp (fun r => if ct r = 0 then 0 else sgf s (ct r) (cu r)) := by
        refine ⟨fun a => ρ (sel a), fun a => sgf s (κ (sel a)) (cu (ρ (sel a))), ⟨by omega, fun a ha => ?_, fun a b ha hb he => ?_⟩, fun a ha => ?_, fun r hr => ?_⟩
        · have := s1 a ha
          rw [fr2 _ _ (by omega), fr2 _ _ (by omega), fr2 _ _ (by omega), fr2 _ _ (by omega)]
          exact this.2
        · exact s2 a b ha hb (f3 _ _ (s1 a ha).1 (s1 b hb).1 he)
        · dsimp only
          have h' := i1 _ (s1 a ha).1
          have h'' := (f2 _ (s1 a ha).1).2.2
          rw [if_neg (by omega), h']
        · dsimp only at hr
          have hct : ¬ ct r = 0 := fun hz => hr (by rw [if_pos hz])
          rw [if_neg hct] at hr
          obtain ⟨x, hx, e'⟩ := i2 r hct
          rw [← e', i1 x hx] at hr
          obtain ⟨a, ha, ea⟩ := s3 x hx (Nat.pos_of_ne_zero hr)
          exact ⟨a, ha, by dsimp only; rw [ea]; exact e'⟩
      refine bMo_merge_10 hX hw5 hw6 hw7 (fun _ hy => ?_) (fun _ hy => ?_) (fun z => absurd hle z)
      · refine bMo_merge_166 hX hw5 hw6 hw7 (k1 _ kp (fun j q z1 z2 => by rw [fr2 j q z1]; exact hfr j q z1 z2) (mup_at _ _ _ _) ?_)
        have hne : ¬ s = 43 := fun z => by
          rcases hs with ⟨_, hy'⟩ | ⟨hs', _⟩ | ⟨hs', _⟩
          · rw [hy'] at hy; exact absurd hy (by decide)
          · rw [z] at hs'; exact absurd hs' (by decide)
          · rw [z] at hs'; exact absurd hs' (by decide)
        have : (fun r => if ct r = 0 then 0 else sgf s (ct r) (cu r)) = fun r => sgf s (ct r) (cu r) := funext fun r => by
          by_cases hr : ct r = 0
          · rw [if_pos hr, hr]
            unfold sgf
            rw [if_neg hne]
            split <;> simp
          · rw [if_neg hr]
        rw [← this]; exact hls
      · have he43 : s = 43 := by
          rcases hs with ⟨hs', _⟩ | ⟨_, hy'⟩ | ⟨_, hy'⟩
          · exact hs'
          · rw [hy'] at hy; exact absurd (by decide) hy
          · rw [hy'] at hy; exact absurd (by decide) hy
        have hsg : ∀ a b, sgf s a b = a + b := fun a b => by unfold sgf; rw [if_pos he43]
        have hfun : (fun r => if (if ct r = 0 then 0 else sgf s (ct r) (cu r)) = 0 then cu r else (if ct r = 0 then 0 else sgf s (ct r) (cu r))) = fun r => sgf s (ct r) (cu r) := funext fun r => by
          by_cases hr : ct r = 0
          · rw [if_pos hr, if_pos rfl, hsg, hr, Nat.zero_add]
          · rw [if_neg hr, hsg, if_neg (by omega)]
        have hu2 : lsR (mup m 193 29 (qi kp)) 211 212 n cu := by
          obtain ⟨ρ', κ', hf', hc'⟩ := hu'
          exact ⟨ρ', κ', lsF_mono hf' (fun q => by rw [fr2 _ _ (by omega), hfr _ _ (by omega) (by omega)]) (fun q => by rw [fr2 _ _ (by omega), hfr _ _ (by omega) (by omega)]), hc'⟩
        refine cMo_addNew hX (mup_at _ _ _ _) hls (by rw [fr2 _ _ (by omega), hfr _ _ (by omega) (by omega)]; exact hn) hu2 (fun m2 n' c1 c2 c3 => ?_) (fun m2 c1 c2 => ?_)
        · rw [hfun] at c3
          exact qcl_i (bMo_merge_163 hX hw5 hw6 hw7 (fun z => absurd z (by decide)) (fun _ => bMo_merge_166 hX hw5 hw6 hw7 (k1 m2 n' (fun j q z1 z2 => by rw [c1 j q z1 z2, fr2 j q z1]; exact hfr j q z1 z2) c2 c3)))
        · rw [hfun] at c2
          exact qcl_i (bMo_merge_163 hX hw5 hw6 hw7 (fun _ => k0 m2 (fun j q z1 z2 => by rw [c1 j q z1 z2, fr2 j q z1]; exact hfr j q z1 z2) c2) (fun z => absurd rfl z))
    | succ f ih =>
      intro i kp m w5 w6 w7 hw5 hw6 hw7 hi hkp hfr hrest hsel
      have hle : ¬ qi h ≤ qi i := by rw [qi_le (by omega) (by omega)]; omega
      have hri := hrest i (Nat.le_refl _) (by omega)
      have hi64 : inx (qi i) 64 := qi_inx (by omega) (by omega)
      have nI : Int32.toNatClampNeg (qi i) = i := qi_N (by omega)
      have hca : κ i < 1073741824 := by rw [← i1 i (by omega)]; exact (hbd _).1
      have hcb := (hbd (ρ i)).2
      refine bMo_merge_10 hX hw5 hw6 hw7 (fun z => absurd z hle) (fun z => absurd z hle) (fun _ => ?_)
      have hu2 : lsR m 211 212 n cu := by
        obtain ⟨ρ', κ', hf', hc'⟩ := hu'
        exact ⟨ρ', κ', lsF_mono hf' (fun q => hfr _ _ (by omega) (by omega)) (fun q => hfr _ _ (by omega) (by omega)), hc'⟩
      refine cMo_inBlock hX (by omega) hri.1 (by rw [hfr _ _ (by omega) (by omega)]; exact hn) hu2 (qcl_i ?_)
      have go : ∀ v : Int32, (v ≤ 0 ↔ sgf s (κ i) (cu (ρ i)) = 0) → (¬ v ≤ 0 → v = qi (sgf s (κ i) (cu (ρ i)))) → QW (d + 1) mMo_merge 83 (lMo_merge_83 y (qi h) (qi kp) (qi i) (qi (cu (ρ i))) w6 w7) [.int v] (hpo X m sw o e) P := by
        intro v hv0 hv1
        refine bMo_merge_83 hX hw6 hw7 ?_
        have cp : ∀ f c m1, c + f = 3 → (∀ j q, ¬ (j = 213 ∧ 3 * kp ≤ q ∧ q < 3 * kp + c) → m1 j q = m j q) → (∀ x, x < c → m1 213 (3 * kp + x) = m 213 (3 * i + x)) → QW (d + 1) mMo_merge 88 (lMo_merge_88 y (qi h) (qi kp) (qi i) (qi (cu (ρ i))) v (qi c)) [] (hpo X m1 sw o e) P := by
          intro f'
          induction f' with
          | zero =>
            intro c m1 hc hfr1 hcp
            obtain rfl : c = 3 := by omega
            have nK : Int32.toNatClampNeg (qi kp) = kp := qi_N (by omega)
            have v0 : ∀ j q, ¬ (j = 213 ∧ 3 * kp ≤ q ∧ q < 3 * kp + 3) → ¬ (j = 214 ∧ q = kp) → mup m1 214 kp v j q = m j q := fun j q z1 z2 => by rw [mup_q, if_neg z2]; exact hfr1 j q z1
            have v1 : at3 (mup m1 214 kp v) 213 kp (ρ i) := by
              unfold at3
              rw [mup_ce (by omega)]
              exact ⟨(hcp 0 (by omega)).trans hri.1.1, (hcp 1 (by omega)).trans hri.1.2.1, (hcp 2 (by omega)).trans hri.1.2.2⟩
            have v2 : mup m1 214 kp v 214 kp = v := mup_at _ _ _ _
            have frm : ∀ j q, ¬ (j = 193 ∧ q = 29) → ¬ (213 ≤ j ∧ j < 215) → mup m1 214 kp v j q = mem j q := fun j q z1 z2 => by rw [v0 j q (by omega) (by omega)]; exact hfr j q z1 z2
            have rst : ∀ x, i + 1 ≤ x → x < h → at3 (mup m1 214 kp v) 213 x (ρ x) ∧ mup m1 214 kp v 214 x = qi (κ x) := fun x hx1 hx2 => by
              have := hrest x (by omega) hx2
              unfold at3 at this ⊢
              rw [v0 _ _ (by omega) (by omega), v0 _ _ (by omega) (by omega), v0 _ _ (by omega) (by omega), v0 _ _ (by omega) (by omega)]
              exact this
            obtain ⟨sel, s1, s2, s3⟩ := hsel
            have old : ∀ a, a < kp → sel a < i ∧ at3 (mup m1 214 kp v) 213 a (ρ (sel a)) ∧ mup m1 214 kp v 214 a = qi (sgf s (κ (sel a)) (cu (ρ (sel a)))) ∧ 0 < sgf s (κ (sel a)) (cu (ρ (sel a))) := fun a ha => by
              have := s1 a ha
              unfold at3 at this ⊢
              rw [v0 _ _ (by omega) (by omega), v0 _ _ (by omega) (by omega), v0 _ _ (by omega) (by omega), v0 _ _ (by omega) (by omega)]
              exact this
            refine bMo_merge_88 hX (fun _ => qi_inx (by omega) (by omega)) (fun _ z => ?_) (fun _ z => ?_) (fun z => absurd (by decide) z) (fun z => absurd (by decide) z) (fun z => absurd (by decide) z)
            · rw [nK]
              refine bMo_merge_142 hX ?_
              rw [show qi kp + 0 = qi kp from qi_add kp 0, qi_1]
              generalize mup m1 214 kp v = m2 at v0 v1 v2 frm rst old ⊢
              refine ih (i + 1) kp m2 _ _ _ (Or.inr (Or.inl ⟨_, rfl⟩)) (Or.inr (Or.inl ⟨_, rfl⟩)) (Or.inr (Or.inl ⟨_, rfl⟩)) (by omega) (by omega) frm rst ⟨sel, fun a ha => ⟨by have := (old a ha).1; omega, (old a ha).2⟩, s2, fun x hx hp => ?_⟩
              rcases Nat.lt_or_eq_of_le (Nat.le_of_lt_succ hx) with h' | h'
              · exact s3 x h' hp
              · subst h'
                rw [hv0.mp z] at hp
                omega
            · rw [nK]
              refine bMo_merge_142 hX ?_
              rw [qi_1, qi_1]
              have hv := hv1 z
              have hpos : 0 < sgf s (κ i) (cu (ρ i)) := Nat.pos_of_ne_zero (fun w => z (hv0.mpr w))
              generalize mup m1 214 kp v = m2 at v0 v1 v2 frm rst old ⊢
              refine ih (i + 1) (kp + 1) m2 _ _ _ (Or.inr (Or.inl ⟨_, rfl⟩)) (Or.inr (Or.inl ⟨_, rfl⟩)) (Or.inr (Or.inl ⟨_, rfl⟩)) (by omega) (by omega) frm rst ⟨fun a => if a < kp then sel a else i, fun a ha => ?_, fun a b ha hb he => ?_, fun x hx hp => ?_⟩
              · dsimp only
                by_cases h1 : a < kp
                · rw [if_pos h1]
                  exact ⟨by have := (old a h1).1; omega, (old a h1).2⟩
                · rw [if_neg h1]
                  obtain rfl : a = kp := by omega
                  exact ⟨by omega, v1, by rw [v2, hv], hpos⟩
              · dsimp only at he
                by_cases h1 : a < kp
                · by_cases h2 : b < kp
                  · rw [if_pos h1, if_pos h2] at he; exact s2 a b h1 h2 he
                  · rw [if_pos h1, if_neg h2] at he
                    have := (old a h1).1
                    omega
                · by_cases h2 : b < kp
                  · rw [if_neg h1, if_pos h2] at he
                    have := (old b h2).1
                    omega
                  · omega
              · rcases Nat.lt_or_eq_of_le (Nat.le_of_lt_succ hx) with h' | h'
                · obtain ⟨a, ha, ea⟩ := s3 x h' hp
                  exact ⟨a, by omega, by dsimp only; rw [if_pos ha]; exact ea⟩
                · subst h'
                  exact ⟨kp, by omega, by dsimp only; rw [if_neg (by omega)]⟩
          | succ f' ih' =>
            intro c m1 hc hfr1 hcp
            have hle3 : ¬ (3 : Int32) ≤ qi c := fun z => by have := (qi_le (a := 3) (by omega) (by omega)).mp z; omega
            have eI : (3 : Int32) * qi i + qi c = qi (3 * i + c) := by rw [q3, qi_add]
            have eK : (3 : Int32) * qi kp + qi c = qi (3 * kp + c) := by rw [q3, qi_add]
            refine bMo_merge_88 hX (fun z => absurd z hle3) (fun z => absurd z hle3) (fun z => absurd z hle3) (fun _ => by rw [eI]; exact qi_inx (by omega) (by omega)) (fun _ => by rw [eK]; exact qi_inx (by omega) (by omega)) (fun _ => ?_)
            rw [eI, eK, qi_1, qi_N (a := 3 * i + c) (by omega), qi_N (a := 3 * kp + c) (by omega)]
            refine ih' (c + 1) _ (by omega) (fun j q z => by rw [mup_q, if_neg (by omega)]; exact hfr1 j q (by omega)) (fun x hx => ?_)
            rw [mup_q]
            rcases Nat.lt_or_eq_of_le (Nat.le_of_lt_succ hx) with h' | h'
            · rw [if_neg (by omega)]; exact hcp x h'
            · rw [if_pos (by omega), h']; exact hfr1 _ _ (by omega)
        exact cp 3 0 m (by omega) (fun j q _ => rfl) (fun x hx => absurd hx (by omega))
      refine bMo_merge_22 hX hw5 hw6 hw7 (fun _ _ => hi64) (fun y0 y1 z => ?_) (fun _ _ _ => hi64) (fun y0 y1 z => ?_) (fun _ _ => hi64) (fun y0 y1 => ?_) (fun _ => hi64) (fun y0 => ?_)
      · rw [nI, hri.2, qi_le (by omega) (by omega)] at z
        have hs2 : sgf s (κ i) (cu (ρ i)) = cu (ρ i) := by
          rcases hs with ⟨_, h'⟩ | ⟨_, h'⟩ | ⟨h', _⟩
          · exact absurd h' y0
          · exact absurd h' y1
          · unfold sgf; rw [h', if_neg (by decide), if_neg (by decide)]; omega
        refine go _ ?_ (fun _ => by rw [hs2])
        rw [hs2]
        constructor
        · intro w
          have := (qi_le (b := 0) (by omega) (by omega)).mp w
          omega
        · intro w
          rw [w]; decide
      · rw [nI, hri.2]
        rw [nI, hri.2, qi_le (by omega) (by omega)] at z
        have hs2 : sgf s (κ i) (cu (ρ i)) = κ i := by
          rcases hs with ⟨_, h'⟩ | ⟨_, h'⟩ | ⟨h', _⟩
          · exact absurd h' y0
          · exact absurd h' y1
          · unfold sgf; rw [h', if_neg (by decide), if_neg (by decide)]; omega
        refine go _ ?_ (fun _ => by rw [hs2])
        rw [hs2]
        constructor
        · intro w
          have := (qi_le (b := 0) (by omega) (by omega)).mp w
          omega
        · intro w
          rw [w]; decide
      · rw [nI, hri.2]
        have hs2 : sgf s (κ i) (cu (ρ i)) = κ i - cu (ρ i) := by
          rcases hs with ⟨_, h'⟩ | ⟨h', _⟩ | ⟨_, h'⟩
          · exact absurd h' y0
          · unfold sgf; rw [h', if_neg (by decide), if_pos rfl]
          · rw [h'] at y1; exact absurd y1 (by decide)
        refine go _ ?_ (fun w => ?_)
        · rw [hs2, qi_s0 hca hcb]; omega
        · rw [hs2]
          have : ¬ κ i ≤ cu (ρ i) := fun w' => w ((qi_s0 hca hcb).mpr w')
          exact qi_sub (by omega)
      · rw [nI, hri.2, qi_add]
        have hs2 : sgf s (κ i) (cu (ρ i)) = κ i + cu (ρ i) := by
          rcases hs with ⟨h', _⟩ | ⟨_, h'⟩ | ⟨_, h'⟩
          · unfold sgf; rw [if_pos h']
          · rw [h'] at y0; exact absurd y0 (by decide)
          · rw [h'] at y0; exact absurd y0 (by decide)
        refine go _ ?_ (fun _ => by rw [hs2])
        rw [hs2]
        constructor
        · intro w
          have := (qi_le (b := 0) (by omega) (by omega)).mp w
          omega
        · intro w
          rw [w]; decide
  refine bMo_merge_0 hX ?_
  rw [hh]
  exact lp h 0 0 mem .unset .unset .unset (Or.inl rfl) (Or.inl rfl) (Or.inl rfl) (by omega) (by omega) (fun j q _ _ => rfl) (fun x _ hx => ⟨(f2 x hx).1, (f2 x hx).2.1⟩) ⟨fun _ => 0, fun a ha => absurd ha (by omega), fun a b ha => absurd ha (by omega), fun x hx => absurd hx (by omega)⟩
end MMR
