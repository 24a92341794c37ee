def adC (ct : qRw → Nat) (x : qRw) (c : Nat) : qRw → Nat := fun y => if y = x then ct y + c else ct y
/-- at most 64 rows -/
def fts (ct : qRw → Nat) : Prop := ∃ l : List qRw, l.length ≤ 64 ∧ ∀ r, ¬ ct r = 0 → r ∈ l
section BGA
variable {d : Nat} {P : qE → Prop} {X : qH} {sw : Bool} {o : Int64} {e : List Nat} {mem : Nat → Nat → Int32} {t w : Nat}
theorem bgF_mono {m m' : Nat → Nat → Int32} {n : Nat} {ρ : Nat → qRw} {κ : Nat → Nat} (h : bgF m t w n ρ κ) (e1 : ∀ j q, t ≤ j → j < t + 3 → m' j q = m j q) : bgF m' t w n ρ κ := by
  obtain ⟨b1, b2, b3, b4, b5⟩ := h
  refine ⟨by rw [e1 _ _ (by omega) (by omega)]; exact b1, by rw [e1 _ _ (by omega) (by omega)]; exact b2, b3, fun i hi => ?_, b5⟩
  have := b4 i hi
  unfold rw3 at this ⊢
  rw [e1 _ _ (by omega) (by omega), e1 _ _ (by omega) (by omega), e1 _ _ (by omega) (by omega), e1 _ _ (by omega) (by omega)]
  exact this
theorem bgR_mono {m m' : Nat → Nat → Int32} {ct : qRw → Nat} (h : bgR m t w ct) (e1 : ∀ j q, t ≤ j → j < t + 3 → m' j q = m j q) : bgR m' t w ct := by
  obtain ⟨n, ρ, κ, h1, h2⟩ := h
  exact ⟨n, ρ, κ, bgF_mono h1 e1, h2⟩
theorem rw3_c {m m' : Nat → Nat → Int32} {a p a' p' : Nat} (h : ∀ c, c < w → m' a' (p' + c) = m a (p + c)) (hw : 1 ≤ w) : rw3 m' a' p' w = rw3 m a p w := by
  unfold rw3
  have h0 := h 0 (by omega)
  rw [Nat.add_zero, Nat.add_zero] at h0
  rw [h0]
  refine Prod.ext rfl (Prod.ext ?_ ?_)
  · show (if 1 < w then _ else _) = (if 1 < w then _ else _)
    by_cases h1 : 1 < w
    · rw [if_pos h1, if_pos h1]; exact h 1 h1
    · rw [if_neg h1, if_neg h1]
  · show (if 2 < w then _ else _) = (if 2 < w then _ else _)
    by_cases h1 : 2 < w
    · rw [if_pos h1, if_pos h1]; exact h 2 h1
    · rw [if_neg h1, if_neg h1]
/-- 64 rows and another one are too many -/
theorem nofit {n : Nat} {ρ : Nat → qRw} {ct : qRw → Nat} {x : qRw} (hn : 64 ≤ n) (hd : ∀ i j, i < j → j < n → rlt (ρ i) (ρ j)) (hx : ∀ i, i < n → ¬ ρ i = x) (h1 : ∀ i, i < n → ¬ ct (ρ i) = 0) (h2 : ¬ ct x = 0) : ¬ fts ct := by
  rintro ⟨l, hl, hm⟩
  have key : ∀ k, k ≤ n → ∀ l : List qRw, (∀ i, i < k → ρ i ∈ l) → x ∈ l → k + 1 ≤ l.length := by
    intro k
    induction k with
    | zero =>
      intro _ l _ hxl
      exact List.length_pos_of_mem hxl
    | succ k ih =>
      intro hk l hr hxl
      have hin := hr k (by omega)
      have := ih (by omega) (l.erase (ρ k)) (fun i hi => ?_) ?_
      · rw [List.length_erase_of_mem hin] at this
        have := List.length_pos_of_mem hin
        omega
      · refine (List.mem_erase_of_ne ?_).mpr (hr i (by omega))
        intro hz
        have := hd i k hi (by omega)
        rw [hz] at this
        exact rlt_ir this
      · refine (List.mem_erase_of_ne ?_).mpr hxl
        intro hz
        exact hx k (by omega) hz.symm
  have := key n (Nat.le_refl _) l (fun i hi => hm _ (h1 i hi)) (hm x h2)
  omega
theorem cBag_add {r p nr c : Nat} {ct : qRw → Nat} (hX : X.length = 13) (ht : kBag t) (hr : sh r = some (64, List.replicate nr none)) (hrt : r < t ∨ t + 2 < r) (hb : bgR mem t w ct) (hw3 : 1 ≤ w ∧ w ≤ 3) (hp : p + w ≤ nr) (hnr : nr ≤ 192) (hc : 0 < c)
    (k1 : ∀ m', (∀ j q, ¬ (t ≤ j ∧ j < t + 3) → m' j q = mem j q) → bgR m' t w (adC ct (rw3 mem r p w) c) → P (.inl (some (.int 1)), hpo X m' sw o e))
    (k0 : ¬ fts (adC ct (rw3 mem r p w) c) → P (.inl (some (.int 0)), hpo X mem sw o e)) :
    QW (d + 1 + 1) mBag_add 0 (qen 5 [.ref t, .ref r, .int (qi p), .int (qi c)]) [] (hpo X mem sw o e) P := by
  obtain ⟨n, ρ, κ, hf, hi1, hi2⟩ := hb
  have hf' := hf
  obtain ⟨b1, b2, b3, b4, b5⟩ := hf'
  refine bBag_add_0 hX ht hr (cBag_first hX ht hr hf hw3 hp hnr (fun b hbn hlo hhi => qcl_i ?_))
  generalize hx : rw3 mem r p w = x at *
  -- a new row
  have ins : (∀ i, i < n → ¬ ρ i = x) → QW (d + 1 + 1) mBag_add 41 (lBag_add_41 (qi p) (qi c) (qi b) t r) [] (hpo X mem sw o e) P := by
    intro hne
    have e1 : Int32.toNatClampNeg (qi b * 3) = 3 * b := by rw [show (3 : Int32) = qi 3 from rfl, qi_mul, qi_N (by omega), Nat.mul_comm]
    have e2 : Int32.toNatClampNeg ((qi b + 1) * 3) = 3 * b + 3 := by rw [qi_1, show (3 : Int32) = qi 3 from rfl, qi_mul, qi_N (by omega)]; omega
    have e3 : Int32.toNatClampNeg ((mem t 1 - qi b) * 3) = 3 * (n - b) := by rw [b2, qi_sub hbn, show (3 : Int32) = qi 3 from rfl, qi_mul, qi_N (by omega), Nat.mul_comm]
    have e4 : Int32.toNatClampNeg (qi b) = b := qi_N (by omega)
    have e5 : Int32.toNatClampNeg (qi b + 1) = b + 1 := by rw [qi_1, qi_N (by omega)]
    have e6 : mcp mem (t + 1) (t + 1) (3 * b) (3 * b + 3) (3 * (n - b)) t 1 = qi n := by rw [mcp_q, if_neg (by omega)]; exact b2
    have e7 : Int32.toNatClampNeg (qi n - qi b) = n - b := by rw [qi_sub hbn, qi_N (by omega)]
    have e8 : mcp (mcp mem (t + 1) (t + 1) (3 * b) (3 * b + 3) (3 * (n - b))) (t + 2) (t + 2) b (b + 1) (n - b) t 0 = qi w := by rw [mcp_q, if_neg (by omega), mcp_q, if_neg (by omega)]; exact b1
    have e9 : Int32.toNatClampNeg (qi w) = w := qi_N (by omega)
    have e10 : Int32.toNatClampNeg (qi p) = p := qi_N (by omega)
    have nn : ∀ y : Nat, y < 2147483648 → ¬ qi y < 0 := fun y hy => qi_p hy
    have hlt : (mem t 1 < 64) ↔ n < 64 := by rw [b2]; exact qi_lt (b := 64) (by omega) (by omega)
    refine bBag_add_41 hX ht hr (fun _ => ?_) (fun _ => ?_) (fun _ => ?_) (fun z => ?_) (fun z => ?_) (fun _ => nn b (by omega)) (fun _ => ?_) (fun _ => ?_) (fun z => ?_) (fun z => ?_) (fun _ => nn p (by omega)) (fun _ => ?_) (fun _ => ?_) (fun z => ?_) (fun z => ?_) (fun z => ?_) (fun z => ?_) (fun z => ?_)
    · rw [show (3 : Int32) = qi 3 from rfl, qi_mul]; exact nn _ (by omega)
    · rw [qi_1, show (3 : Int32) = qi 3 from rfl, qi_mul]; exact nn _ (by omega)
    · rw [b2, qi_sub hbn, show (3 : Int32) = qi 3 from rfl, qi_mul]; exact nn _ (by omega)
    · rw [e1, e3]; have := hlt.mp z; omega
    · rw [e2, e3]; have := hlt.mp z; omega
    · rw [qi_1]; exact nn _ (by omega)
    · rw [e1, e2, e3, e6, qi_sub hbn]; exact nn _ (by omega)
    · rw [e1, e2, e3, e6, e7, e4]; have := hlt.mp z; omega
    · rw [e1, e2, e3, e6, e7, e5]; have := hlt.mp z; omega
    · rw [show (3 : Int32) = qi 3 from rfl, qi_mul]; exact nn _ (by omega)
    · rw [e1, e2, e3, e6, e7, e4, e5, e8]; exact nn _ (by omega)
    · rw [e1, e2, e3, e6, e7, e4, e5, e8, e9, e10]; exact hp
    · rw [e1, e2, e3, e6, e7, e4, e5, e8, e9]; have := hlt.mp z; omega
    · exact qi_inx (by have := hlt.mp z; omega) (by omega)
    · have hn := hlt.mp z
      rw [e1, e2, e3, e6, e7, e4, e5, e8, e9, e10]
      have v0 : ∀ j q, ¬ (t ≤ j ∧ j < t + 3) → mup (mup (mcp (mcp (mcp mem (t + 1) (t + 1) (3 * b) (3 * b + 3) (3 * (n - b))) (t + 2) (t + 2) b (b + 1) (n - b)) r (t + 1) p (3 * b) w) (t + 2) b (qi c)) t 1 (mup (mcp (mcp (mcp mem (t + 1) (t + 1) (3 * b) (3 * b + 3) (3 * (n - b))) (t + 2) (t + 2) b (b + 1) (n - b)) r (t + 1) p (3 * b) w) (t + 2) b (qi c) t 1 + 1) j q = mem j q := fun j q a => by
        rw [mup_q, if_neg (by omega), mup_q, if_neg (by omega), mcp_q, if_neg (by omega), mcp_q, if_neg (by omega), mcp_q, if_neg (by omega)]
      have v1 : mup (mup (mcp (mcp (mcp mem (t + 1) (t + 1) (3 * b) (3 * b + 3) (3 * (n - b))) (t + 2) (t + 2) b (b + 1) (n - b)) r (t + 1) p (3 * b) w) (t + 2) b (qi c)) t 1 (mup (mcp (mcp (mcp mem (t + 1) (t + 1) (3 * b) (3 * b + 3) (3 * (n - b))) (t + 2) (t + 2) b (b + 1) (n - b)) r (t + 1) p (3 * b) w) (t + 2) b (qi c) t 1 + 1) t 0 = qi w := by
        rw [mup_q, if_neg (by omega), mup_q, if_neg (by omega), mcp_q, if_neg (by omega), mcp_q, if_neg (by omega), mcp_q, if_neg (by omega)]; exact b1
      have v2 : mup (mup (mcp (mcp (mcp mem (t + 1) (t + 1) (3 * b) (3 * b + 3) (3 * (n - b))) (t + 2) (t + 2) b (b + 1) (n - b)) r (t + 1) p (3 * b) w) (t + 2) b (qi c)) t 1 (mup (mcp (mcp (mcp mem (t + 1) (t + 1) (3 * b) (3 * b + 3) (3 * (n - b))) (t + 2) (t + 2) b (b + 1) (n - b)) r (t + 1) p (3 * b) w) (t + 2) b (qi c) t 1 + 1) t 1 = qi (n + 1) := by
        rw [mup_at, mup_q, if_neg (by omega), mcp_q, if_neg (by omega), mcp_q, if_neg (by omega), mcp_q, if_neg (by omega), b2, qi_1]
      have v3 : ∀ q, mup (mup (mcp (mcp (mcp mem (t + 1) (t + 1) (3 * b) (3 * b + 3) (3 * (n - b))) (t + 2) (t + 2) b (b + 1) (n - b)) r (t + 1) p (3 * b) w) (t + 2) b (qi c)) t 1 (mup (mcp (mcp (mcp mem (t + 1) (t + 1) (3 * b) (3 * b + 3) (3 * (n - b))) (t + 2) (t + 2) b (b + 1) (n - b)) r (t + 1) p (3 * b) w) (t + 2) b (qi c) t 1 + 1) (t + 1) q = if 3 * b ≤ q ∧ q < 3 * b + w then mem r (p + (q - 3 * b)) else if 3 * b + 3 ≤ q ∧ q < 3 * n + 3 then mem (t + 1) (q - 3) else mem (t + 1) q := fun q => by
        rw [mup_q, if_neg (by omega), mup_q, if_neg (by omega), mcp_q]
        by_cases h1 : 3 * b ≤ q ∧ q < 3 * b + w
        · rw [if_pos ⟨rfl, h1⟩, if_pos h1, mcp_q, if_neg (by omega), mcp_q, if_neg (by omega)]
        · rw [if_neg (fun y => h1 y.2), if_neg h1, mcp_q, if_neg (by omega), mcp_q]
          by_cases h2 : 3 * b + 3 ≤ q ∧ q < 3 * n + 3
          · rw [if_pos (by omega), if_pos h2]; congr 1; omega
          · rw [if_neg (by omega), if_neg h2]
      have v4 : ∀ q, mup (mup (mcp (mcp (mcp mem (t + 1) (t + 1) (3 * b) (3 * b + 3) (3 * (n - b))) (t + 2) (t + 2) b (b + 1) (n - b)) r (t + 1) p (3 * b) w) (t + 2) b (qi c)) t 1 (mup (mcp (mcp (mcp mem (t + 1) (t + 1) (3 * b) (3 * b + 3) (3 * (n - b))) (t + 2) (t + 2) b (b + 1) (n - b)) r (t + 1) p (3 * b) w) (t + 2) b (qi c) t 1 + 1) (t + 2) q = if q = b then qi c else if b + 1 ≤ q ∧ q < n + 1 then mem (t + 2) (q - 1) else mem (t + 2) q := fun q => by
        rw [mup_q, if_neg (by omega), mup_q]
        by_cases h1 : q = b
        · rw [if_pos ⟨rfl, h1⟩, if_pos h1]
        · rw [if_neg (fun y => h1 y.2), if_neg h1, mcp_q, if_neg (by omega), mcp_q]
          by_cases h2 : b + 1 ≤ q ∧ q < n + 1
          · rw [if_pos (by omega), if_pos h2, mcp_q, if_neg (by omega)]; congr 1; omega
          · rw [if_neg (by omega), if_neg h2, mcp_q, if_neg (by omega)]
      generalize mup (mup (mcp (mcp (mcp mem (t + 1) (t + 1) (3 * b) (3 * b + 3) (3 * (n - b))) (t + 2) (t + 2) b (b + 1) (n - b)) r (t + 1) p (3 * b) w) (t + 2) b (qi c)) t 1 (mup (mcp (mcp (mcp mem (t + 1) (t + 1) (3 * b) (3 * b + 3) (3 * (n - b))) (t + 2) (t + 2) b (b + 1) (n - b)) r (t + 1) p (3 * b) w) (t + 2) b (qi c) t 1 + 1) = m' at v0 v1 v2 v3 v4 ⊢
      have hct : ct x = 0 := by
        by_cases hz : ct x = 0
        · exact hz
        · obtain ⟨i, hi, hii⟩ := hi2 x hz
          exact absurd hii (hne i hi)
      have hgt : ∀ i, b ≤ i → i < n → rlt x (ρ i) := fun i h1 h2 => by
        rcases rlt_tri (ρ i) x with h | h | h
        · exact absurd h (hhi i h1 h2)
        · exact absurd h (hne i h2)
        · exact h
      refine k1 m' v0 ⟨n + 1, fun i => if i < b then ρ i else if i = b then x else ρ (i - 1), fun i => if i < b then κ i else if i = b then c else κ (i - 1), ⟨v1, v2, by omega, fun i hi => ?_, fun i j hij hj => ?_⟩, fun i hi => ?_, fun y hy => ?_⟩
      · dsimp only
        by_cases h1 : i < b
        · rw [if_pos h1, if_pos h1]
          have := b4 i (by omega)
          refine ⟨?_, ?_, this.2.2⟩
          · rw [← this.1]
            exact rw3_c (fun c' hc' => by rw [v3, if_neg (by omega), if_neg (by omega)]) hw3.1
          · rw [v4, if_neg (by omega), if_neg (by omega)]; exact this.2.1
        · rw [if_neg h1, if_neg h1]
          by_cases h2 : i = b
          · rw [if_pos h2, if_pos h2]
            refine ⟨?_, by rw [v4, if_pos h2], hc⟩
            rw [← hx]
            exact rw3_c (fun c' hc' => by rw [v3, if_pos (by omega)]; congr 1; omega) hw3.1
          · rw [if_neg h2, if_neg h2]
            have := b4 (i - 1) (by omega)
            refine ⟨?_, ?_, this.2.2⟩
            · rw [← this.1]
              exact rw3_c (fun c' hc' => by rw [v3, if_neg (by omega), if_pos (by omega)]; congr 1; omega) hw3.1
            · rw [v4, if_neg (by omega), if_pos (by omega)]; exact this.2.1
      · dsimp only
        by_cases h1 : i < b
        · rw [if_pos h1]
          by_cases h2 : j < b
          · rw [if_pos h2]; exact b5 i j hij (by omega)
          · rw [if_neg h2]
            by_cases h3 : j = b
            · rw [if_pos h3]; exact hlo i h1
            · rw [if_neg h3]; exact b5 i (j - 1) (by omega) (by omega)
        · rw [if_neg h1, if_neg (show ¬ j < b by omega), if_neg (show ¬ j = b by omega)]
          by_cases h3 : i = b
          · rw [if_pos h3]; exact hgt _ (by omega) (by omega)
          · rw [if_neg h3]; exact b5 (i - 1) (j - 1) (by omega) (by omega)
      · dsimp only [adC]
        by_cases h1 : i < b
        · rw [if_pos h1, if_pos h1, if_neg (hne i (by omega))]; exact hi1 i (by omega)
        · rw [if_neg h1, if_neg h1]
          by_cases h2 : i = b
          · rw [if_pos h2, if_pos h2, if_pos rfl, hct, Nat.zero_add]
          · rw [if_neg h2, if_neg h2, if_neg (hne _ (by omega))]; exact hi1 _ (by omega)
      · dsimp only [adC] at hy
        by_cases h1 : y = x
        · exact ⟨b, by omega, by dsimp only; rw [if_neg (by omega), if_pos rfl]; exact h1.symm⟩
        · rw [if_neg h1] at hy
          obtain ⟨i, hi, hii⟩ := hi2 y hy
          by_cases h2 : i < b
          · exact ⟨i, by omega, by dsimp only; rw [if_pos h2]; exact hii⟩
          · exact ⟨i + 1, by omega, by dsimp only; rw [if_neg (by omega), if_neg (by omega)]; exact hii⟩
    · have hn := mt hlt.mpr z
      refine k0 (nofit (n := n) (ρ := ρ) (by omega) b5 hne (fun i hi => ?_) ?_)
      · dsimp only [adC]
        rw [if_neg (hne i hi), hi1 i hi]
        have := (b4 i hi).2.2
        omega
      · dsimp only [adC]
        rw [if_pos rfl]; omega
  have ne_of : ∀ i, i < n → ¬ (i = b ∧ ρ b = x) → ¬ ρ i = x := fun i hi hz he => by
    rcases Nat.lt_trichotomy i b with h | h | h
    · have := hlo i h
      rw [he] at this
      exact rlt_ir this
    · exact hz ⟨h, h ▸ he⟩
    · have h1 := b5 b i h hi
      rw [he] at h1
      exact hhi b (Nat.le_refl _) (by omega) h1
  have hsz : (mem t 1 ≤ qi b) ↔ n ≤ b := by rw [b2]; exact qi_le (by omega) (by omega)
  refine bBag_add_6 hX ht hr (fun z => ins (fun i hi => ne_of i hi (by have := hsz.mp z; omega))) (fun z => ?_)
  have hbn' : b < n := by have := mt hsz.mpr z; omega
  have hbb := b4 b hbn'
  refine cBag_compare (w := w) hX ht hr b1 hw3 (by omega) hp hnr (fun y => ?_) (fun y => ?_) (fun y => ?_)
  · rw [hbb.1, hx] at y
    refine qcl_i (bBag_add_25 hX ht hr (fun z => absurd rfl z) (fun _ => qi_inx (by omega) (by omega)) (fun _ => qi_inx (by omega) (by omega)) (fun _ => ?_))
    rw [qi_N (by omega), hbb.2.1, qi_add]
    refine k1 _ (fun j q a => by rw [mup_q, if_neg (by omega)]) ⟨n, ρ, fun i => if i = b then κ b + c else κ i, ⟨by rw [mup_ce (by omega)]; exact b1, by rw [mup_ce (by omega)]; exact b2, b3, fun i hi => ?_, b5⟩, fun i hi => ?_, fun y' hy => ?_⟩
    · have := b4 i hi
      refine ⟨?_, ?_, ?_⟩
      · rw [← this.1]; exact rw3_c (fun c' _ => by rw [mup_ce (by omega)]) hw3.1
      · dsimp only
        rw [mup_q]
        by_cases h1 : i = b
        · rw [if_pos ⟨rfl, h1⟩, if_pos h1]
        · rw [if_neg (fun z => h1 z.2), if_neg h1]; exact this.2.1
      · dsimp only
        by_cases h1 : i = b
        · rw [if_pos h1]; omega
        · rw [if_neg h1]; exact this.2.2
    · dsimp only [adC]
      by_cases h1 : i = b
      · subst h1
        rw [if_pos y, if_pos rfl, hi1 i hi]
      · rw [if_neg h1, if_neg (ne_of i hi (fun z => h1 z.1))]; exact hi1 i hi
    · dsimp only [adC] at hy
      by_cases h1 : y' = x
      · exact ⟨b, hbn', by rw [h1]; exact y⟩
      · rw [if_neg h1] at hy; exact hi2 y' hy
  · rw [hbb.1, hx] at y
    exact qcl_i (bBag_add_25 hX ht hr (fun _ => ins (fun i hi => ne_of i hi (fun z => by rw [z.2] at y; exact rlt_ir y))) (fun z => absurd z (by decide)) (fun z => absurd z (by decide)) (fun z => absurd z (by decide)))
  · rw [hbb.1, hx] at y
    exact qcl_i (bBag_add_25 hX ht hr (fun _ => ins (fun i hi => ne_of i hi (fun z => by rw [z.2] at y; exact rlt_ir y))) (fun z => absurd z (by decide)) (fun z => absurd z (by decide)) (fun z => absurd z (by decide)))
end BGA
