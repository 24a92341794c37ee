section GRC
variable {d : Nat} {P : qE → Prop} {X : qH} {sw : Bool} {o : Int64} {e : List Nat} {N : Nat} {K V : Nat → Int32} {S : Nat → Nat} {B : Nat}
theorem cBl_sourceNamed {ns : Nat} {a : Int32} {mem : Nat → Nat → Int32} (hX : X.length = 13) (hB : kBl B) (hs : mem B 2 = qi ns) (h4 : ns ≤ 4)
    (k1 : ∀ s, s < ns → mem (B + 2) s = a → (∀ r, r < s → ¬ mem (B + 2) r = a) → P (.inl (some (.int (qi s))), hpo X mem sw o e))
    (k0 : (∀ s, s < ns → ¬ mem (B + 2) s = a) → P (.inl (some (.int (-1))), hpo X mem sw o e)) : QW d mBl_sourceNamed 0 (qen 3 [.ref B, .int a]) [] (hpo X mem sw o e) P := by
  have lp : ∀ f s, s + f = ns → (∀ r, r < s → ¬ mem (B + 2) r = a) → QW d mBl_sourceNamed 2 (lBl_sourceNamed_2 a (qi s) B) [] (hpo X mem sw o e) P := by
    intro f
    induction f with
    | zero =>
      intro s hs' hr
      obtain rfl : s = ns := by omega
      refine bBl_sourceNamed_2 hX hB (fun _ => k0 hr) (fun z => absurd (by rw [hs]; exact Int32.le_refl _) z) (fun z => absurd (by rw [hs]; exact Int32.le_refl _) z) (fun z => absurd (by rw [hs]; exact Int32.le_refl _) z)
    | succ f ih =>
      intro s hs' hr
      have hlt : ¬ mem B 2 ≤ qi s := fun z => by rw [hs, qi_le (by omega) (by omega)] at z; omega
      refine bBl_sourceNamed_2 hX hB (fun z => absurd z hlt) (fun _ => qi_inx (by omega) (by omega)) (fun _ z => ?_) (fun _ z => ?_)
      · rw [qi_N (by omega)] at z
        rw [qi_1]
        exact ih (s + 1) (by omega) (fun r hr' => by
          rcases Nat.lt_or_eq_of_le (Nat.le_of_lt_succ hr') with h | h
          · exact hr r h
          · rw [h]; exact z)
      · rw [qi_N (by omega)] at z
        exact k1 s (by omega) z hr
  exact bBl_sourceNamed_0 hX hB (lp ns 0 (by omega) (fun r hr => absurd hr (by omega)))
theorem srs_mono {mem mem' : Nat → Nat → Int32} {l : List (Int32 × Int32)} (h : srs mem B l) (e0 : mem' B 2 = mem B 2) (e1 : ∀ q, mem' (B + 1) q = mem (B + 1) q) (e2 : ∀ q, mem' (B + 2) q = mem (B + 2) q) : srs mem' B l := by
  refine ⟨by rw [e0]; exact h.1, fun k v hk => ?_⟩
  rw [e1, e2]
  exact h.2 k v hk
theorem rdSrc {cnt : Nat} (hX : X.length = 13) (hB : kBl B) (hB1 : 35 < B) : ∀ (f n : Nat) (acc : List (Int32 × Int32)) (mem : Nat → Nat → Int32) (w5 w6 : Slot), qfr w5 → qfr w6 → acc.length + (f + 1) = 4 → qTk mem N K S V → mem 31 4 = qi n → n ≤ N → srs mem B acc → mem 14 1 = qi cnt →
    (∀ m' l n', psr (qi cnt) K V (f + 1) n acc = (some l, n') → n' ≤ N → m' 31 4 = qi n' → (∀ j q, ¬ (j = 31 ∧ q = 4) → ¬ (j = B ∧ q = 2) → ¬ (B + 1 ≤ j ∧ j < B + 3) → m' j q = mem j q) → srs m' B l → 1 ≤ l.length → l.length ≤ 4 → P (.inl (some (.int 1)), hpo X m' sw o e)) →
    (∀ m' n', psr (qi cnt) K V (f + 1) n acc = (none, n') → n' ≤ N → m' 31 4 = qi n' → (∀ j q, ¬ (j = 31 ∧ q = 4) → ¬ (j = B ∧ q = 2) → ¬ (B + 1 ≤ j ∧ j < B + 3) → m' j q = mem j q) → P (.inl (some (.int 0)), hpo X m' sw o e)) →
    QW (d + 1 + 1) mRd_readSources 5 (lRd_readSources_5 1 (qi acc.length) w5 w6 B) [] (hpo X mem sw o e) P := by
  intro f
  induction f with
  | zero =>
    intro n acc mem w5 w6 hw5 hw6 hl ht hn hN hs hc k1 k0
    have hi3 : ¬ (4 : Int32) ≤ qi acc.length := fun z => by have := (qi_le (a := 4) (by omega) (by omega)).mp z; omega
    refine bRd_readSources_5 hX hB hw5 hw6 (fun z => absurd z hi3) (fun _ z => absurd z (by decide)) (fun _ _ => cTok_value hX ht hn hN (qcl_i (bRd_readSources_22 hX hB hw5 hw6 (cTok_is hX ht hn hN (fun x1 => ?_) (fun x1 => ?_)))))
    · refine qcl_i (bRd_readSources_32 hX hB hw6 (fun z => absurd z (by decide)) (fun _ => bCat_has_0 hX (fun z => ?_) (fun z1 z2 => ?_) (fun z1 z2 => ?_)))
      · exact qcl_i (bRd_readSources_41 hX hB hw6 (fun z => absurd rfl z) (fun _ => k0 mem n (by simp [psr, z]) hN hn (fun j q _ _ _ => rfl)))
      · rw [hc] at z2
        exact qcl_i (bRd_readSources_41 hX hB hw6 (fun z => absurd rfl z) (fun _ => k0 mem n (by simp [psr, z2]) hN hn (fun j q _ _ _ => rfl)))
      · rw [hc] at z2
        refine qcl_i (bRd_readSources_41 hX hB hw6 (fun _ => cTok_take hX ht hn hN (by decide) (fun _ y1 => ?_) (fun z => absurd x1 z)) (fun z => absurd z (by decide)))
        have ht1 := qTk_at (qi (n + 1)) ht
        have hn1 : mup mem 31 4 (qi (n + 1)) 31 4 = qi (n + 1) := mup_at _ _ _ _
        have hs1 : srs (mup mem 31 4 (qi (n + 1))) B acc := srs_mono hs (by (repeat (rw [mup_q]; first | rw [if_pos (by omega)] | rw [if_neg (by omega)]))) (fun q => by (repeat (rw [mup_q]; first | rw [if_pos (by omega)] | rw [if_neg (by omega)]))) (fun q => by (repeat (rw [mup_q]; first | rw [if_pos (by omega)] | rw [if_neg (by omega)])))
        refine qcl_i (bRd_readSources_54 hX hB hw6 (cTok_value hX ht1 hn1 (by omega) (qcl_i (bRd_readSources_62 hX hB hw6 (cTok_is hX ht1 hn1 (by omega) (fun x2 => ?_) (fun x2 => ?_))))))
        · refine qcl_i (bRd_readSources_72 hX hB (fun z => absurd z (by decide)) (fun _ => cBl_sourceNamed hX hB hs1.1 (by omega) (fun s hs2 hs3 hs4 => ?_) (fun hno => ?_)))
          · have hp : ¬ qi s < 0 := qi_p (by omega)
            refine qcl_i (bRd_readSources_81 hX hB (fun z => absurd z hp) (fun _ => k0 _ (n + 1) ?_ (by omega) hn1 (fun j q a b c => by (repeat (rw [mup_q]; first | rw [if_pos (by omega)] | rw [if_neg (by omega)])))))
            have hg : acc[s]? = some acc[s] := List.getElem?_eq_getElem hs2
            have hv := (hs1.2 s _ hg).2
            have hmem : acc[s] ∈ acc := List.getElem_mem hs2
            have : ¬ (∀ v ∈ acc, ¬ v.2 = V (n + 1)) := fun hz => hz _ hmem (hv.symm.trans hs3)
            simp only [psr]
            rw [if_pos ⟨x1, z1, z2⟩, if_neg (fun hz => this hz.2)]
          · have hno' : ∀ v ∈ acc, ¬ v.2 = V (n + 1) := fun v hv hz => by
              obtain ⟨s, hs2, hs3⟩ := List.getElem_of_mem hv
              exact hno s hs2 (((hs1.2 s v (by rw [List.getElem?_eq_getElem hs2, hs3])).2).trans hz)
            refine qcl_i (bRd_readSources_81 hX hB (fun _ => cTok_take hX ht1 hn1 (by omega) (by decide) (fun _ y2 => ?_) (fun z => absurd x2 z)) (fun z => absurd (by decide) z))
            have hB2 : mup (mup mem 31 4 (qi (n + 1))) 31 4 (qi (n + 1 + 1)) B 2 = qi acc.length := by (repeat (rw [mup_q]; first | rw [if_pos (by omega)] | rw [if_neg (by omega)])); exact hs.1
            refine qcl_i (bRd_readSources_94 hX hB (bBl_addSource_0 hX hB (by rw [hB2]; exact qi_inx (by omega) (by omega)) (by rw [mup_ce (by omega), hB2]; exact qi_inx (by omega) (by omega)) (qcl_v ?_)))
            rw [hB2, qi_N (by omega)]
            rw [show mup (mup (mup mem 31 4 (qi (n + 1))) 31 4 (qi (n + 1 + 1))) (B + 1) acc.length (V n) B 2 = qi acc.length by (repeat (rw [mup_q]; first | rw [if_pos (by omega)] | rw [if_neg (by omega)])); exact hs.1, qi_N (by omega)]
            rw [show mup (mup (mup (mup mem 31 4 (qi (n + 1))) 31 4 (qi (n + 1 + 1))) (B + 1) acc.length (V n)) (B + 2) acc.length (V (n + 1)) B 2 = qi acc.length by (repeat (rw [mup_q]; first | rw [if_pos (by omega)] | rw [if_neg (by omega)])); exact hs.1, qi_1]
            have fin : P (.inl (some (.int 1)), hpo X (mup (mup (mup (mup (mup mem 31 4 (qi (n + 1))) 31 4 (qi (n + 1 + 1))) (B + 1) acc.length (V n)) (B + 2) acc.length (V (n + 1))) B 2 (qi (acc.length + 1))) sw o e) := by
              refine k1 _ (acc ++ [(V n, V (n + 1))]) (n + 2) ?_ (by omega) (by (repeat (rw [mup_q]; first | rw [if_pos (by omega)] | rw [if_neg (by omega)]))) (fun j q a b c => by (repeat (rw [mup_q]; first | rw [if_pos (by omega)] | rw [if_neg (by omega)]))) ⟨by (repeat (rw [mup_q]; first | rw [if_pos (by omega)] | rw [if_neg (by omega)])); simp, ?_⟩ (by simp) (by simp; omega)
              · simp only [psr]
                rw [if_pos ⟨x1, z1, z2⟩, if_pos ⟨x2, hno'⟩, if_neg (by simp)]
              · intro k v hk
                by_cases hkk : k < acc.length
                · rw [List.getElem?_append_left hkk] at hk
                  have := hs.2 k v hk
                  exact ⟨by (repeat (rw [mup_q]; first | rw [if_pos (by omega)] | rw [if_neg (by omega)])); exact this.1, by (repeat (rw [mup_q]; first | rw [if_pos (by omega)] | rw [if_neg (by omega)])); exact this.2⟩
                · obtain rfl : k = acc.length := by
                    have := List.getElem?_eq_some_iff.mp hk
                    obtain ⟨h', _⟩ := this
                    simp at h'
                    omega
                  simp at hk
                  subst hk
                  exact ⟨by (repeat (rw [mup_q]; first | rw [if_pos (by omega)] | rw [if_neg (by omega)])), by (repeat (rw [mup_q]; first | rw [if_pos (by omega)] | rw [if_neg (by omega)]))⟩
            have hl4 : (4 : Int32) ≤ qi acc.length + 1 := by rw [qi_1]; exact (qi_le (a := 4) (by omega) (by omega)).mpr (by omega)
            have hl5 : (4 : Int32) ≤ qi (acc.length + 1) := (qi_le (a := 4) (by omega) (by omega)).mpr (by omega)
            refine bRd_readSources_103 hX hB (fun _ => bRd_readSources_127 hX hB (bRd_readSources_128 hX hB ?_)) (fun z => absurd hl4 z)
            rw [qi_1]
            exact bRd_readSources_5 hX hB (Or.inr (Or.inl ⟨_, rfl⟩)) (Or.inr (Or.inl ⟨_, rfl⟩)) (fun _ => fin) (fun z => absurd hl5 z) (fun z => absurd hl5 z)
        · exact qcl_i (bRd_readSources_72 hX hB (fun _ => k0 _ (n + 1) (by simp [psr, x1, z1, z2, x2]) (by omega) hn1 (fun j q a b c => by (repeat (rw [mup_q]; first | rw [if_pos (by omega)] | rw [if_neg (by omega)])))) (fun z => absurd rfl z))
    · exact qcl_i (bRd_readSources_32 hX hB hw6 (fun _ => k0 mem n (by simp [psr, x1]) hN hn (fun j q _ _ _ => rfl)) (fun z => absurd rfl z))
  | succ f ih =>
    intro n acc mem w5 w6 hw5 hw6 hl ht hn hN hs hc k1 k0
    have hi3 : ¬ (4 : Int32) ≤ qi acc.length := fun z => by have := (qi_le (a := 4) (by omega) (by omega)).mp z; omega
    refine bRd_readSources_5 hX hB hw5 hw6 (fun z => absurd z hi3) (fun _ z => absurd z (by decide)) (fun _ _ => cTok_value hX ht hn hN (qcl_i (bRd_readSources_22 hX hB hw5 hw6 (cTok_is hX ht hn hN (fun x1 => ?_) (fun x1 => ?_)))))
    · refine qcl_i (bRd_readSources_32 hX hB hw6 (fun z => absurd z (by decide)) (fun _ => bCat_has_0 hX (fun z => ?_) (fun z1 z2 => ?_) (fun z1 z2 => ?_)))
      · exact qcl_i (bRd_readSources_41 hX hB hw6 (fun z => absurd rfl z) (fun _ => k0 mem n (by simp [psr, z]) hN hn (fun j q _ _ _ => rfl)))
      · rw [hc] at z2
        exact qcl_i (bRd_readSources_41 hX hB hw6 (fun z => absurd rfl z) (fun _ => k0 mem n (by simp [psr, z2]) hN hn (fun j q _ _ _ => rfl)))
      · rw [hc] at z2
        refine qcl_i (bRd_readSources_41 hX hB hw6 (fun _ => cTok_take hX ht hn hN (by decide) (fun _ y1 => ?_) (fun z => absurd x1 z)) (fun z => absurd z (by decide)))
        have ht1 := qTk_at (qi (n + 1)) ht
        have hn1 : mup mem 31 4 (qi (n + 1)) 31 4 = qi (n + 1) := mup_at _ _ _ _
        have hs1 : srs (mup mem 31 4 (qi (n + 1))) B acc := srs_mono hs (by (repeat (rw [mup_q]; first | rw [if_pos (by omega)] | rw [if_neg (by omega)]))) (fun q => by (repeat (rw [mup_q]; first | rw [if_pos (by omega)] | rw [if_neg (by omega)]))) (fun q => by (repeat (rw [mup_q]; first | rw [if_pos (by omega)] | rw [if_neg (by omega)])))
        refine qcl_i (bRd_readSources_54 hX hB hw6 (cTok_value hX ht1 hn1 (by omega) (qcl_i (bRd_readSources_62 hX hB hw6 (cTok_is hX ht1 hn1 (by omega) (fun x2 => ?_) (fun x2 => ?_))))))
        · refine qcl_i (bRd_readSources_72 hX hB (fun z => absurd z (by decide)) (fun _ => cBl_sourceNamed hX hB hs1.1 (by omega) (fun s hs2 hs3 hs4 => ?_) (fun hno => ?_)))
          · have hp : ¬ qi s < 0 := qi_p (by omega)
            refine qcl_i (bRd_readSources_81 hX hB (fun z => absurd z hp) (fun _ => k0 _ (n + 1) ?_ (by omega) hn1 (fun j q a b c => by (repeat (rw [mup_q]; first | rw [if_pos (by omega)] | rw [if_neg (by omega)])))))
            have hg : acc[s]? = some acc[s] := List.getElem?_eq_getElem hs2
            have hv := (hs1.2 s _ hg).2
            have hmem : acc[s] ∈ acc := List.getElem_mem hs2
            have : ¬ (∀ v ∈ acc, ¬ v.2 = V (n + 1)) := fun hz => hz _ hmem (hv.symm.trans hs3)
            simp only [psr]
            rw [if_pos ⟨x1, z1, z2⟩, if_neg (fun hz => this hz.2)]
          · have hno' : ∀ v ∈ acc, ¬ v.2 = V (n + 1) := fun v hv hz => by
              obtain ⟨s, hs2, hs3⟩ := List.getElem_of_mem hv
              exact hno s hs2 (((hs1.2 s v (by rw [List.getElem?_eq_getElem hs2, hs3])).2).trans hz)
            refine qcl_i (bRd_readSources_81 hX hB (fun _ => cTok_take hX ht1 hn1 (by omega) (by decide) (fun _ y2 => ?_) (fun z => absurd x2 z)) (fun z => absurd (by decide) z))
            have hB2 : mup (mup mem 31 4 (qi (n + 1))) 31 4 (qi (n + 1 + 1)) B 2 = qi acc.length := by (repeat (rw [mup_q]; first | rw [if_pos (by omega)] | rw [if_neg (by omega)])); exact hs.1
            refine qcl_i (bRd_readSources_94 hX hB (bBl_addSource_0 hX hB (by rw [hB2]; exact qi_inx (by omega) (by omega)) (by rw [mup_ce (by omega), hB2]; exact qi_inx (by omega) (by omega)) (qcl_v ?_)))
            rw [hB2, qi_N (by omega)]
            rw [show mup (mup (mup mem 31 4 (qi (n + 1))) 31 4 (qi (n + 1 + 1))) (B + 1) acc.length (V n) B 2 = qi acc.length by (repeat (rw [mup_q]; first | rw [if_pos (by omega)] | rw [if_neg (by omega)])); exact hs.1, qi_N (by omega)]
            rw [show mup (mup (mup (mup mem 31 4 (qi (n + 1))) 31 4 (qi (n + 1 + 1))) (B + 1) acc.length (V n)) (B + 2) acc.length (V (n + 1)) B 2 = qi acc.length by (repeat (rw [mup_q]; first | rw [if_pos (by omega)] | rw [if_neg (by omega)])); exact hs.1, qi_1]
            have hfr : ∀ j q, ¬ (j = 31 ∧ q = 4) → ¬ (j = B ∧ q = 2) → ¬ (B + 1 ≤ j ∧ j < B + 3) → mup (mup (mup (mup (mup mem 31 4 (qi (n + 1))) 31 4 (qi (n + 1 + 1))) (B + 1) acc.length (V n)) (B + 2) acc.length (V (n + 1))) B 2 (qi (acc.length + 1)) j q = mem j q := fun j q a b c => by (repeat (rw [mup_q]; first | rw [if_pos (by omega)] | rw [if_neg (by omega)]))
            have hat : mup (mup (mup (mup (mup mem 31 4 (qi (n + 1))) 31 4 (qi (n + 1 + 1))) (B + 1) acc.length (V n)) (B + 2) acc.length (V (n + 1))) B 2 (qi (acc.length + 1)) 31 4 = qi (n + 2) := by (repeat (rw [mup_q]; first | rw [if_pos (by omega)] | rw [if_neg (by omega)]))
            have hsr : srs (mup (mup (mup (mup (mup mem 31 4 (qi (n + 1))) 31 4 (qi (n + 1 + 1))) (B + 1) acc.length (V n)) (B + 2) acc.length (V (n + 1))) B 2 (qi (acc.length + 1))) B (acc ++ [(V n, V (n + 1))]) := by
              refine ⟨by (repeat (rw [mup_q]; first | rw [if_pos (by omega)] | rw [if_neg (by omega)])); simp, ?_⟩
              intro k v hk
              by_cases hkk : k < acc.length
              · rw [List.getElem?_append_left hkk] at hk
                have := hs.2 k v hk
                exact ⟨by (repeat (rw [mup_q]; first | rw [if_pos (by omega)] | rw [if_neg (by omega)])); exact this.1, by (repeat (rw [mup_q]; first | rw [if_pos (by omega)] | rw [if_neg (by omega)])); exact this.2⟩
              · obtain rfl : k = acc.length := by
                  have := List.getElem?_eq_some_iff.mp hk
                  obtain ⟨h', _⟩ := this
                  simp at h'
                  omega
                simp at hk
                subst hk
                exact ⟨by (repeat (rw [mup_q]; first | rw [if_pos (by omega)] | rw [if_neg (by omega)])), by (repeat (rw [mup_q]; first | rw [if_pos (by omega)] | rw [if_neg (by omega)]))⟩
            generalize mup (mup (mup (mup (mup mem 31 4 (qi (n + 1))) 31 4 (qi (n + 1 + 1))) (B + 1) acc.length (V n)) (B + 2) acc.length (V (n + 1))) B 2 (qi (acc.length + 1)) = m2 at hfr hat hsr ⊢
            have ht2 : qTk m2 N K S V := qTk_mono (hfr _ _ (by omega) (by omega) (by omega)) (fun j q a b => hfr _ _ (by omega) (by omega) (by omega)) ht
            have hl4 : ¬ (4 : Int32) ≤ qi acc.length + 1 := fun z => by rw [qi_1] at z; have := (qi_le (a := 4) (by omega) (by omega)).mp z; omega
            have hl5 : ¬ (4 : Int32) ≤ qi (acc.length + 1) := fun z => by have := (qi_le (a := 4) (by omega) (by omega)).mp z; omega
            refine bRd_readSources_103 hX hB (fun z => absurd z hl4) (fun _ => cTok_take hX ht2 hat (by omega) (by decide) (fun x3 y3 => ?_) (fun x3 => ?_))
            · refine qcl_i (bRd_readSources_120 hX hB (fun z => absurd z (by decide)) (fun _ => bRd_readSources_128 hX hB ?_))
              rw [qi_1]
              have hlen : (acc ++ [(V n, V (n + 1))]).length = acc.length + 1 := by simp
              have hfr2 : ∀ j q, ¬ (j = 31 ∧ q = 4) → mup m2 31 4 (qi (n + 2 + 1)) j q = m2 j q := fun j q a => by (repeat (rw [mup_q]; first | rw [if_pos (by omega)] | rw [if_neg (by omega)]))
              have := ih (n + 3) (acc ++ [(V n, V (n + 1))]) (mup m2 31 4 (qi (n + 2 + 1))) (.val (.int (V n))) (.val (.int (V (n + 1)))) (Or.inr (Or.inl ⟨_, rfl⟩)) (Or.inr (Or.inl ⟨_, rfl⟩)) (by omega) (qTk_at _ ht2) (mup_at _ _ _ _) (by omega) (srs_mono hsr (hfr2 _ _ (by omega)) (fun q => hfr2 _ _ (by omega)) (fun q => hfr2 _ _ (by omega))) (by rw [hfr2 _ _ (by omega), hfr _ _ (by omega) (by omega) (by omega)]; exact hc)
                (fun m' l n' g1 g2 g3 g4 g5 g6 g7 => k1 m' l n' (by simp only [psr]; rw [if_pos ⟨x1, z1, z2⟩, if_pos ⟨x2, hno'⟩, if_pos ⟨by omega, x3⟩]; exact g1) g2 g3 (fun j q a b c => by rw [g4 j q a b c, hfr2 j q a, hfr j q a b c]) g5 g6 g7)
                (fun m' n' g1 g2 g3 g4 => k0 m' n' (by simp only [psr]; rw [if_pos ⟨x1, z1, z2⟩, if_pos ⟨x2, hno'⟩, if_pos ⟨by omega, x3⟩]; exact g1) g2 g3 (fun j q a b c => by rw [g4 j q a b c, hfr2 j q a, hfr j q a b c]))
              rw [hlen] at this
              exact this
            · have fin : P (.inl (some (.int 1)), hpo X m2 sw o e) := by
                refine k1 _ (acc ++ [(V n, V (n + 1))]) (n + 2) ?_ (by omega) hat hfr hsr (by simp) (by simp; omega)
                simp only [psr]
                rw [if_pos ⟨x1, z1, z2⟩, if_pos ⟨x2, hno'⟩, if_neg (fun hz => x3 hz.2)]
              refine qcl_i (bRd_readSources_120 hX hB (fun _ => bRd_readSources_127 hX hB (bRd_readSources_128 hX hB ?_)) (fun z => absurd rfl z))
              exact bRd_readSources_5 hX hB (Or.inr (Or.inl ⟨_, rfl⟩)) (Or.inr (Or.inl ⟨_, rfl⟩)) (fun _ => fin) (fun _ _ => fin) (fun _ z => absurd rfl z)
        · exact qcl_i (bRd_readSources_72 hX hB (fun _ => k0 _ (n + 1) (by simp [psr, x1, z1, z2, x2]) (by omega) hn1 (fun j q a b c => by (repeat (rw [mup_q]; first | rw [if_pos (by omega)] | rw [if_neg (by omega)])))) (fun z => absurd rfl z))
    · exact qcl_i (bRd_readSources_32 hX hB hw6 (fun _ => k0 mem n (by simp [psr, x1]) hN hn (fun j q _ _ _ => rfl)) (fun z => absurd rfl z))
end GRC
