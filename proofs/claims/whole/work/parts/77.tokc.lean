section TKC
variable {d : Nat} {P : qE → Prop} {X : qH} {mem : Nat → Nat → Int32} {sw : Bool} {o : Int64} {e : List Nat}
/-- a token laid -/
def tkp (mem : Nat → Nat → Int32) (n : Nat) (k s v : Int32) : Nat → Nat → Int32 := mup (mup (mup (mup mem 32 n k) 33 n s) 34 n v) 31 3 (qi (n + 1))
theorem cTok_put {n : Nat} {k s v : Int32} (hX : X.length = 13) (hn : mem 31 3 = qi n) (h2 : n < 201) (kk : P (.inl none, hpo X (tkp mem n k s v) sw o e)) : QW d mTok_put 0 (qen 4 [.ref 31, .int k, .int s, .int v]) [] (hpo X mem sw o e) P := by
  have hN : Int32.toNatClampNeg (qi n) = n := qi_N (by omega)
  have e1 : ∀ a, (mup mem 32 a k) 31 3 = qi n := fun a => by rw [mup_ce (by omega), hn]
  have e2 : ∀ a b, (mup (mup mem 32 a k) 33 b s) 31 3 = qi n := fun a b => by rw [mup_ce (by omega), e1]
  have e3 : ∀ a b c, (mup (mup (mup mem 32 a k) 33 b s) 34 c v) 31 3 = qi n := fun a b c => by rw [mup_ce (by omega), e2]
  have hi : inx (qi n) 201 := qi_inx h2 (by omega)
  refine bTok_put_0 hX (by rw [hn]; exact hi) (by rw [e1]; exact hi) (by rw [e2]; exact hi) ?_
  rw [e3, e2, e1, hn, hN, qi_1]
  exact kk
theorem tkp_fr {n : Nat} {k s v : Int32} {j q : Nat} (h : ¬ (31 ≤ j ∧ j < 35)) : tkp mem n k s v j q = mem j q := by
  unfold tkp
  rw [mup_ce (by omega), mup_ce (by omega), mup_ce (by omega), mup_ce (by omega)]
theorem cTxt_endOfRun {L s : Nat} {lo hi : Int32} (hX : X.length = 13) (hL : mem 28 1 = qi L) (hL2 : L ≤ 200) (hs : s < L) (h1 : ¬ mem 29 s < lo) (h2 : ¬ hi < mem 29 s) (k : ∀ t, rnr (mem 29) L lo hi s t → P (.inl (some (.int (qi t))), hpo X mem sw o e)) : QW d mTxt_endOfRun 0 (qen 5 [.ref 28, .int (qi s), .int lo, .int hi]) [] (hpo X mem sw o e) P := by
  have lp : ∀ f t, t + f = L → s ≤ t → (s = t → s < L) → (∀ j, s ≤ j → j < t → ¬ mem 29 j < lo ∧ ¬ hi < mem 29 j) → QW d mTxt_endOfRun 3 (lTxt_endOfRun_3 (qi s) lo hi (qi t)) [] (hpo X mem sw o e) P := by
    intro f
    induction f with
    | zero =>
      intro t ht hst _ hall
      obtain rfl : t = L := by omega
      have hle : mem 28 1 ≤ qi t := by rw [hL]; exact Int32.le_refl _
      refine bTxt_endOfRun_3 hX (fun _ => ?_) (fun z => absurd hle z) (fun z => absurd hle z) (fun z => absurd hle z) (fun z => absurd hle z) (fun z => absurd hle z)
      exact bTxt_endOfRun_40 hX (k t ⟨hs, Nat.le_refl _, hall, fun z => absurd z (Nat.lt_irrefl _)⟩)
    | succ f ih =>
      intro t ht hst _ hall
      have hle : ¬ mem 28 1 ≤ qi t := by rw [hL]; exact fun z => absurd ((qi_le (by omega) (by omega)).mp z) (by omega)
      have hN : Int32.toNatClampNeg (qi t) = t := qi_N (by omega)
      have stop : mem 29 t < lo ∨ hi < mem 29 t → QW d mTxt_endOfRun 40 (lTxt_endOfRun_40 (qi s) lo hi (qi t)) [] (hpo X mem sw o e) P := by
        intro z
        have hlt : s < t := by
          rcases Nat.eq_or_lt_of_le hst with q | q
          · subst q
            rcases z with z | z
            · exact absurd z h1
            · exact absurd z h2
          · exact q
        exact bTxt_endOfRun_40 hX (k t ⟨hlt, by omega, hall, fun _ => z⟩)
      refine bTxt_endOfRun_3 hX (fun z => absurd z hle) (fun _ => qi_inx (by omega) (by omega)) (fun _ z => stop (by rw [hN] at z; exact Or.inl z)) (fun _ _ => qi_inx (by omega) (by omega)) (fun _ _ z => stop (by rw [hN] at z; exact Or.inr z)) (fun _ z1 z2 => ?_)
      rw [hN] at z1 z2
      rw [qi_1]
      refine ih (t + 1) (by omega) (by omega) (fun q => by omega) (fun j hj hj2 => ?_)
      by_cases q : j = t
      · subst q
        exact ⟨z1, z2⟩
      · exact hall j hj (by omega)
  exact bTxt_endOfRun_0 hX (lp (L - s) s (by omega) (Nat.le_refl _) (fun _ => hs) (fun j hj hj2 => absurd hj2 (by omega)))
theorem cTxt_number {s t : Nat} (hX : X.length = 13) (hst : s ≤ t) (ht : t ≤ 200) (k : P (.inl (some (.int (nmb (mem 29) s (t - s)))), hpo X mem sw o e)) : QW d mTxt_number 0 (qen 5 [.ref 28, .int (qi s), .int (qi t)]) [] (hpo X mem sw o e) P := by
  have lp : ∀ f i, s + i + f = t → QW d mTxt_number 5 (lTxt_number_5 (qi s) (qi t) (nmb (mem 29) s i) (qi (s + i))) [] (hpo X mem sw o e) P := by
    intro f
    induction f with
    | zero =>
      intro i hi
      have hle : qi t ≤ qi (s + i) := (qi_le (by omega) (by omega)).mpr (by omega)
      refine bTxt_number_5 hX (fun _ => ?_) (fun z => absurd hle z) (fun z => absurd hle z)
      rw [show i = t - s by omega]
      exact k
    | succ f ih =>
      intro i hi
      have hle : ¬ qi t ≤ qi (s + i) := fun z => absurd ((qi_le (by omega) (by omega)).mp z) (by omega)
      refine bTxt_number_5 hX (fun z => absurd z hle) (fun _ => qi_inx (by omega) (by omega)) (fun _ => ?_)
      rw [qi_N (by omega), qi_1]
      exact ih (i + 1) (by omega)
  have := lp (t - s) 0 (by omega)
  exact bTxt_number_0 hX this
theorem isw_w {i s t : Nat} {l : List Int32} {n : Nat} (hl : qsw.getD i [] = l) (hn : qsn.getD i 0 = n) (hln : l.length = n) (hst : s ≤ t) : isw mem i s t ↔ (t = s + n ∧ wrd (mem 29) s l) := by
  unfold isw wrd
  rw [hl, hn]
  constructor
  · rintro ⟨h1, h2⟩
    refine ⟨by omega, fun j c hc => ?_⟩
    have hj : j < l.length := (List.getElem?_eq_some_iff.mp hc).1
    rw [h2 j (by omega), List.getD_eq_getElem?_getD, hc]
    rfl
  · rintro ⟨h1, h2⟩
    refine ⟨by omega, fun j hj => ?_⟩
    have hj : j < l.length := by omega
    rw [h2 j l[j] (List.getElem?_eq_getElem hj), List.getD_eq_getElem?_getD, List.getElem?_eq_getElem hj]
    rfl
theorem sgn_isg {c : Int32} : sgn c ↔ isg c := by
  unfold sgn isg
  constructor
  · rintro ⟨k, hk, rfl⟩
    have : k = 0 ∨ k = 1 ∨ k = 2 ∨ k = 3 ∨ k = 4 ∨ k = 5 ∨ k = 6 := by omega
    rcases this with rfl | rfl | rfl | rfl | rfl | rfl | rfl <;> decide
  · rintro (rfl | rfl | rfl | rfl | rfl | rfl | rfl)
    · exact ⟨0, by omega, rfl⟩
    · exact ⟨1, by omega, rfl⟩
    · exact ⟨2, by omega, rfl⟩
    · exact ⟨3, by omega, rfl⟩
    · exact ⟨4, by omega, rfl⟩
    · exact ⟨5, by omega, rfl⟩
    · exact ⟨6, by omega, rfl⟩
theorem cTok_addToken {L s n : Nat} (hX : X.length = 13) (hL : mem 28 1 = qi L) (hL2 : L ≤ 200) (hs : s < L) (hch : ∀ k, k < L → ¬ mem 29 k < 32 ∧ mem 29 k ≤ 126) (hn : mem 31 3 = qi n) (hn2 : n < 201)
    (k : ∀ t kd v g, tkr (mem 29) L s t kd v g → s < t → t ≤ L → P (.inl (some (.int (qi t))), hpo X (tkp mem n kd (qi s) v) sw o e)) : QW (d + 7) mTok_addToken 0 (qen 6 [.ref 31, .ref 28, .int (qi s)]) [] (hpo X mem sw o e) P := by
  have hN : Int32.toNatClampNeg (qi s) = s := qi_N (by omega)
  refine bTok_addToken_0 hX (qi_inx (by omega) (by omega)) (fun z1 z2 => ?_) (fun z0 z1 z2 => ?_) (fun z0 z1 z2 z3 => ?_) (fun z0 z1 z2 => ?_)
  · rw [hN] at z1 z2 ⊢
    refine cTxt_endOfRun hX hL hL2 hs z1 z2 (fun t ht => qcl_i ?_)
    have hst : s < t := ht.1
    have htL : t ≤ L := ht.2.1
    refine bTok_addToken_28 hX ?_
    have fin : ∀ kd, wkd (mem 29) s t kd → qcl (d + 6) mTok_addToken 35 38 [.val (.ref 31), .val (.ref 28), .val (.int (qi s)), .val (.int (mem 29 s)), .val (.int (qi t)), .unset] [.ref 31] P (.inl (some (.int kd)), hpo X mem sw o e) := by
      intro kd hk
      refine qcl_i ?_
      refine bTok_addToken_38 hX ?_
      refine cTok_put hX hn hn2 (qcl_v ?_)
      exact bTok_addToken_43 hX (k t kd (mem 29 s) 1 (Or.inl ⟨ht, hk, rfl, rfl⟩) hst htL)
    have w1 := isw_w (mem := mem) (i := 1) (s := s) (t := t) (l := [115, 101, 116]) (n := 3) rfl rfl rfl (by omega)
    have w2 := isw_w (mem := mem) (i := 2) (s := s) (t := t) (l := [111, 117, 116]) (n := 3) rfl rfl rfl (by omega)
    have w3 := isw_w (mem := mem) (i := 3) (s := s) (t := t) (l := [111, 102]) (n := 2) rfl rfl rfl (by omega)
    have w4 := isw_w (mem := mem) (i := 4) (s := s) (t := t) (l := [119, 104, 101, 114, 101]) (n := 5) rfl rfl rfl (by omega)
    have w5 := isw_w (mem := mem) (i := 5) (s := s) (t := t) (l := [97, 110, 100]) (n := 3) rfl rfl rfl (by omega)
    refine cTok_wordKind (d := d + 1) hX (by omega) (by omega) (fun q => fin 3 (Or.inl ⟨rfl, by omega⟩)) (fun q y => fin 6 (Or.inr (Or.inl ⟨rfl, w1.mp y⟩))) (fun q _ y => fin 7 (Or.inr (Or.inr (Or.inl ⟨rfl, w2.mp y⟩)))) (fun q _ _ y => fin 8 (Or.inr (Or.inr (Or.inr (Or.inl ⟨rfl, w3.mp y⟩))))) (fun q _ _ _ y => fin 9 (Or.inr (Or.inr (Or.inr (Or.inr (Or.inl ⟨rfl, w4.mp y⟩))))))
      (fun q _ _ _ _ y => fin 10 (Or.inr (Or.inr (Or.inr (Or.inr (Or.inr (Or.inl ⟨rfl, w5.mp y⟩))))))) (fun q y1 y2 y3 y4 y5 => fin 2 (Or.inr (Or.inr (Or.inr (Or.inr (Or.inr (Or.inr ⟨rfl, by omega, fun y => y1 (w1.mpr y), fun y => y2 (w2.mpr y), fun y => y3 (w3.mpr y), fun y => y4 (w4.mpr y), fun y => y5 (w5.mpr y)⟩)))))))
  · rw [hN] at z0 z1 z2 ⊢
    refine cTxt_endOfRun hX hL hL2 hs z1 z2 (fun t ht => qcl_i ?_)
    have hst : s < t := ht.1
    have htL : t ≤ L := ht.2.1
    have hlt : 3 < qi t - qi s ↔ s + 3 < t := by
      rw [qi_sub (by omega)]
      refine (qi_lt (a := 3) (by omega) (by omega)).trans ?_
      omega
    refine bTok_addToken_67 hX (fun z => ?_) (fun z => ?_)
    · have z : ¬ s + 3 < t := fun q => z (hlt.mpr q)
      refine cTxt_number hX (by omega) (by omega) (qcl_i ?_)
      refine bTok_addToken_108 hX ?_
      refine cTok_put hX hn hn2 (qcl_v ?_)
      exact bTok_addToken_115 hX (k t 5 _ 3 (Or.inr (Or.inl ⟨ht, by omega, rfl, rfl, rfl⟩)) hst htL)
    · have z : s + 3 < t := hlt.mp z
      refine cTok_put hX hn hn2 (qcl_v ?_)
      exact bTok_addToken_115 hX (k t 1 _ 5 (Or.inr (Or.inr (Or.inl ⟨ht, z, rfl, rfl, rfl⟩))) hst htL)
  · rw [hN] at z0 z1 z2 z3 ⊢
    refine cTok_put hX hn hn2 (qcl_v ?_)
    refine bTok_addToken_140 hX ?_
    rw [qi_1]
    exact k (s + 1) 4 _ 2 (Or.inr (Or.inr (Or.inr (Or.inl ⟨hs, rfl, z2, z3, rfl, rfl, rfl⟩)))) (by omega) (by omega)
  · rw [hN] at z0 z1 z2 ⊢
    obtain ⟨b, hb, eb⟩ := ch_r (hch s hs).1 (hch s hs).2
    rw [eb]
    refine cJS_indexOf (d := d + 3) (n := b) (by omega) (fun r hr => qcl_i ?_)
    rw [← eb, sgn_isg] at hr
    rw [← eb]
    refine bTok_addToken_150 hX (fun z => ?_) (fun z => ?_)
    · refine cTok_put hX hn hn2 (qcl_v ?_)
      refine bTok_addToken_163 hX ?_
      rw [qi_1]
      exact k (s + 1) _ _ 4 (Or.inr (Or.inr (Or.inr (Or.inr (Or.inl ⟨hs, rfl, hr.mp (Int32.not_lt.mp z), rfl, rfl, rfl⟩))))) (by omega) (by omega)
    · refine cTok_put hX hn hn2 (qcl_v ?_)
      refine bTok_addToken_163 hX ?_
      rw [qi_1]
      exact k (s + 1) _ _ 5 (Or.inr (Or.inr (Or.inr (Or.inr (Or.inr ⟨hs, rfl, fun q => absurd (hr.mpr q) (Int32.not_le.mpr z), z0, z1, z2, rfl, rfl, rfl⟩))))) (by omega) (by omega)
/-- what stands of the tokens when n of them are laid, the last ends at p, and i characters are seen -/
def spi (f : Nat → Int32) (m : Nat → Nat → Int32) (L n p i : Nat) (K : Nat → Int32) (S : Nat → Nat) (V : Nat → Int32) (E : Nat → Nat) (G : Nat → Int32) : Prop :=
  n ≤ i ∧ p ≤ L ∧ m 31 3 = qi n ∧ (∀ k, k < n → m 32 k = K k ∧ m 33 k = qi (S k) ∧ m 34 k = V k) ∧ (∀ k, S k ≤ 200) ∧ (∀ j, p ≤ j → j < i → f j = 32) ∧ (∀ k, k < n → S k < L ∧ tkr f L (S k) (E k) (K k) (V k) (G k)) ∧ (∀ k, k + 1 < n → skr f L (E k) (S (k + 1))) ∧ (n = 0 → p = 0) ∧ (0 < n → skr f L 0 (S 0) ∧ E (n - 1) = p)
theorem spi_new {f : Nat → Int32} {m : Nat → Nat → Int32} {L n p s t : Nat} {K V G : Nat → Int32} {S E : Nat → Nat} {kd v g : Int32} (h : spi f m L n p s K S V E G) (hL : L ≤ 200) (hs : s < L) (hps : p ≤ s) (h32 : ¬ f s = 32) (hst : s < t) (htL : t ≤ L) (ht : tkr f L s t kd v g) :
    spi f (tkp m n kd (qi s) v) L (n + 1) t (s + 1) (fun k => if k = n then kd else K k) (fun k => if k = n then s else S k) (fun k => if k = n then v else V k) (fun k => if k = n then t else E k) (fun k => if k = n then g else G k) := by
  obtain ⟨h1, h2, h3, h4, h5, h6, h7, h8, h9, h10⟩ := h
  have sk : skr f L p s := ⟨hps, by omega, h6, fun _ => h32⟩
  refine ⟨by omega, htL, ?_, fun k hk => ?_, fun k => ?_, fun j hj hj2 => absurd hj2 (by omega), fun k hk => ?_, fun k hk => ?_, fun q => absurd q (by omega), fun _ => ⟨?_, ?_⟩⟩
  · unfold tkp
    rw [mup_at]
  · unfold tkp
    by_cases e1 : k = n
    · subst e1
      (repeat (rw [mup_q]; first | rw [if_pos (by omega)] | rw [if_neg (by omega)]))
      simp
    · have := h4 k (by omega)
      simp only [if_neg e1]
      (repeat (rw [mup_q]; first | rw [if_pos (by omega)] | rw [if_neg (by omega)]))
      exact this
  · by_cases e1 : k = n
    · simp only [if_pos e1]; omega
    · simp only [if_neg e1]; exact h5 k
  · by_cases e1 : k = n
    · simp only [if_pos e1]; exact ⟨hs, ht⟩
    · simp only [if_neg e1]; exact h7 k (by omega)
  · by_cases e1 : k + 1 = n
    · have e2 : ¬ k = n := by omega
      simp only [if_pos e1, if_neg e2]
      have := (h10 (by omega)).2
      rw [show n - 1 = k by omega] at this
      rw [this]
      exact sk
    · have e2 : ¬ k = n := by omega
      simp only [if_neg e1, if_neg e2]
      exact h8 k (by omega)
  · by_cases e1 : 0 = n
    · simp only [if_pos e1]
      rw [h9 e1.symm] at sk
      exact sk
    · simp only [if_neg e1]
      exact (h10 (by omega)).1
  · simp
theorem spl_ok (hX : X.length = 13) : SPL (d + 8) X := by
  intro P mem sw o e L hL hL2 hch k
  have lp : ∀ g i m n p K S V E G, i + g = L → (∀ j q, ¬ (31 ≤ j ∧ j < 35) → m j q = mem j q) → m 31 4 = 0 → spi (mem 29) m L n p i K S V E G → QW (d + 8) mTok_split 14 (lTok_split_14 (qi p) (qi i)) [] (hpo X m sw o e) P := by
    intro g
    induction g with
    | zero =>
      intro i m n p K S V E G hi hfr h4 h
      obtain rfl : i = L := by omega
      have h28 : m 28 1 = qi i := by rw [hfr _ _ (by omega), hL]
      have hle : m 28 1 ≤ qi i := by rw [h28]; exact Int32.le_refl _
      refine bTok_split_14 hX (fun _ => ?_) (fun z => absurd hle z) (fun z => absurd hle z) (fun z => absurd hle z) (fun z => absurd hle z)
      obtain ⟨h1, h2, h3, h4', h5, h6, h7, h8, h9, h10⟩ := h
      refine cTok_put hX h3 (by omega) (qcl_v (bTok_split_61 hX ?_))
      have sk : skr (mem 29) i p i := ⟨h2, Nat.le_refl _, h6, fun z => absurd z (Nat.lt_irrefl _)⟩
      rw [h28]
      refine k _ n (fun k => if k = n then 0 else K k) (fun k => if k = n then i else S k) (fun k => if k = n then 0 else V k) (fun k => if k = n then i else E k) (fun k => if k = n then 0 else G k) ⟨hL2, hch, by simp, by simp, by simp, by simp, ?_, fun q hq => ?_⟩ (fun q => ?_) ⟨by omega, ?_, fun q hq => ?_, by simp⟩ ?_ (fun j q hj => ?_)
      · by_cases e1 : 0 = n
        · simp only [if_pos e1]
          rw [h9 e1.symm] at sk
          exact sk
        · simp only [if_neg e1]
          exact (h10 (by omega)).1
      · have e1 : ¬ q = n := by omega
        simp only [if_neg e1]
        refine ⟨(h7 q hq).1, ?_, (h7 q hq).2⟩
        by_cases e2 : q + 1 = n
        · simp only [if_pos e2]
          have := (h10 (by omega)).2
          rw [show n - 1 = q by omega] at this
          rw [this]
          exact sk
        · simp only [if_neg e2]
          exact h8 q (by omega)
      · by_cases e1 : q = n
        · simp only [if_pos e1]; exact hL2
        · simp only [if_neg e1]; exact h5 q
      · unfold tkp
        rw [mup_at]
      · unfold tkp
        by_cases e1 : q = n
        · subst e1
          (repeat (rw [mup_q]; first | rw [if_pos (by omega)] | rw [if_neg (by omega)]))
          simp
        · have := h4' q (by omega)
          simp only [if_neg e1]
          (repeat (rw [mup_q]; first | rw [if_pos (by omega)] | rw [if_neg (by omega)]))
          exact this
      · unfold tkp
        (repeat (rw [mup_q]; first | rw [if_pos (by omega)] | rw [if_neg (by omega)]))
        exact h4
      · rw [tkp_fr hj]
        exact hfr j q hj
    | succ g ih =>
      intro i m n p K S V E G hi hfr h4 h
      have h28 : m 28 1 = qi L := by rw [hfr _ _ (by omega), hL]
      have h29 : m 29 = mem 29 := funext fun q => hfr _ _ (by omega)
      have hN : Int32.toNatClampNeg (qi i) = i := qi_N (by omega)
      have hle : ¬ m 28 1 ≤ qi i := by rw [h28]; exact fun z => absurd ((qi_le (by omega) (by omega)).mp z) (by omega)
      have hpL : p ≤ L := h.2.1
      have hni : n ≤ i := h.1
      have hlt : qi i < qi p ↔ i < p := qi_lt (by omega) (by omega)
      have nxt : (∀ j, p ≤ j → j < i + 1 → mem 29 j = 32) → QW (d + 8) mTok_split 14 (lTok_split_14 (qi p) (qi i + 1)) [] (hpo X m sw o e) P := by
        intro hb
        rw [qi_1]
        obtain ⟨h1, h2, h3, h4', h5, h6, h7, h8, h9, h10⟩ := h
        exact ih (i + 1) m n p K S V E G (by omega) hfr h4 ⟨by omega, h2, h3, h4', h5, hb, h7, h8, h9, h10⟩
      refine bTok_split_14 hX (fun z => absurd z hle) (fun _ z => nxt (fun j hj hj2 => ?_)) (fun _ _ => qi_inx (by omega) (by omega)) (fun _ z z2 => nxt (fun j hj hj2 => ?_)) (fun _ z z2 => ?_)
      · have := hlt.mp z
        omega
      · rw [hN, h29] at z2
        by_cases e1 : j = i
        · rw [e1]; exact z2
        · exact h.2.2.2.2.2.1 j hj (by omega)
      · rw [hN, h29] at z2
        have hpi : p ≤ i := by
          have : ¬ i < p := fun q => z (hlt.mpr q)
          omega
        refine cTok_addToken (d := d) hX h28 hL2 (by omega) (by rw [h29]; exact hch) h.2.2.1 (by omega) (fun t kd v gg ht hst htL => qcl_i ?_)
        rw [h29] at ht
        refine bTok_split_44 hX ?_
        rw [qi_1]
        exact ih (i + 1) _ (n + 1) t _ _ _ _ _ (by omega) (fun j q hj => by rw [tkp_fr hj]; exact hfr j q hj) (by unfold tkp; (repeat (rw [mup_q]; first | rw [if_pos (by omega)] | rw [if_neg (by omega)])); exact h4) (spi_new h hL2 (by omega) hpi z2 hst htL ht)
  refine bTok_split_0 hX ?_
  refine lp L 0 _ 0 0 (fun _ => 0) (fun _ => 0) (fun _ => 0) (fun _ => 0) (fun _ => 0) (by omega) (fun j q hj => ?_) ?_ ⟨Nat.le_refl _, Nat.zero_le _, ?_, fun k hk => absurd hk (by omega), fun _ => Nat.zero_le _, fun j _ hj => absurd hj (by omega), fun k hk => absurd hk (by omega), fun k hk => absurd hk (by omega), fun _ => rfl, fun q => absurd q (by omega)⟩
  · rw [mup_ce (by omega), mup_ce (by omega)]
  · rw [mup_at]
  · rw [mup_sl (by omega), mup_at]
    rfl
end TKC
