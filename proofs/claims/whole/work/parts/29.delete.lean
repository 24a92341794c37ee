/-- a row's three cells laid over another's, the first j of them -/
def cp3 (f : Nat → Int32) (i k j : Nat) : Nat → Int32 := fun q => if k * 3 ≤ q ∧ q < k * 3 + j then f (i * 3 + (q - k * 3)) else f q
def dst (c : Nat) (v : Int32) (i : Nat) (p : Nat × (Nat → Int32)) : Nat × (Nat → Int32) := if p.2 (i * 3 + c) = v then p else (p.1 + 1, cp3 p.2 i p.1 3)
/-- the rows that stay, and the cells then, after i rows -/
def dlt (g : Nat → Int32) (c : Nat) (v : Int32) : Nat → Nat × (Nat → Int32)
  | 0 => (0, g)
  | i + 1 => dst c v i (dlt g c v i)
theorem dlt_le (g : Nat → Int32) (c : Nat) (v : Int32) : ∀ i, (dlt g c v i).1 ≤ i
  | 0 => Nat.le_refl 0
  | i + 1 => by
    have := dlt_le g c v i
    show (dst c v i (dlt g c v i)).1 ≤ i + 1
    unfold dst
    split
    · omega
    · show (dlt g c v i).1 + 1 ≤ i + 1
      omega
def msc (mem : Nat → Nat → Int32) (i : Nat) (f : Nat → Int32) : Nat → Nat → Int32 := fun j => if j = i then f else mem j
theorem msc_at (mem : Nat → Nat → Int32) (i : Nat) (f : Nat → Int32) : msc mem i f i = f := by simp [msc]
theorem msc_ce {mem : Nat → Nat → Int32} {i j : Nat} {f : Nat → Int32} (h : j ≠ i) : msc mem i f j = mem j := by simp [msc, h]
theorem msc_self (mem : Nat → Nat → Int32) (i : Nat) : msc mem i (mem i) = mem := by
  funext j
  by_cases h : j = i
  · subst h; rw [msc_at]
  · rw [msc_ce h]
theorem mcp_msc (mem : Nat → Nat → Int32) (b i k : Nat) (f : Nat → Int32) : mcp (msc mem b f) b b (i * 3) (k * 3) 3 = msc mem b (cp3 f i k 3) := by
  funext j q
  rw [mcp_q]
  by_cases h : j = b
  · subst h
    rw [msc_at, msc_at]
    unfold cp3
    by_cases h2 : k * 3 ≤ q ∧ q < k * 3 + 3
    · rw [if_pos ⟨rfl, h2⟩, if_pos h2]
    · rw [if_neg (fun z => h2 z.2), if_neg h2]
  · rw [if_neg (fun z => h z.1), msc_ce h, msc_ce h]
/-- the reference's cells with those of table t -/
def mz (mem : Nat → Nat → Int32) (t : Nat) (f : Nat → Int32) : Nat → Nat → Int32 := msc mem 196 (fun q => if 24 * t ≤ q ∧ q < 24 * t + 24 then f (q - 24 * t) else mem 196 q)
theorem mz_at {mem : Nat → Nat → Int32} {t q : Nat} {f : Nat → Int32} (h : q < 24) : mz mem t f 196 (24 * t + q) = f q := by
  unfold mz
  rw [msc_at, if_pos (by omega), Nat.add_sub_cancel_left]
theorem mz_self (mem : Nat → Nat → Int32) (t : Nat) : mz mem t (fun q => mem 196 (24 * t + q)) = mem := by
  unfold mz
  rw [show (fun q => if 24 * t ≤ q ∧ q < 24 * t + 24 then mem 196 (24 * t + (q - 24 * t)) else mem 196 q) = mem 196 from ?_, msc_self]
  funext q
  by_cases h : 24 * t ≤ q ∧ q < 24 * t + 24
  · rw [if_pos h, Nat.add_sub_cancel' h.1]
  · rw [if_neg h]
theorem mz_step {mem : Nat → Nat → Int32} {t i k j : Nat} {f : Nat → Int32} (hki : k ≤ i) (hi : i < 8) (hj : j < 3) : mup (mz mem t (cp3 f i k j)) 196 (24 * t + (3 * k + j)) (mz mem t (cp3 f i k j) 196 (24 * t + (3 * i + j))) = mz mem t (cp3 f i k (j + 1)) := by
  rw [mz_at (by omega)]
  have e1 : cp3 f i k j (3 * i + j) = f (3 * i + j) := by
    unfold cp3
    rw [if_neg (by omega)]
  rw [e1]
  funext a q
  rw [mup_q]
  by_cases h : a = 196
  · subst h
    unfold mz
    rw [msc_at, msc_at]
    by_cases h2 : q = 24 * t + (3 * k + j)
    · subst h2
      rw [if_pos ⟨rfl, rfl⟩, if_pos (by omega), Nat.add_sub_cancel_left]
      unfold cp3
      rw [if_pos (by omega)]
      congr 1
      omega
    · rw [if_neg (fun z => h2 z.2)]
      by_cases h3 : 24 * t ≤ q ∧ q < 24 * t + 24
      · rw [if_pos h3, if_pos h3]
        unfold cp3
        by_cases h4 : k * 3 ≤ q - 24 * t ∧ q - 24 * t < k * 3 + j
        · rw [if_pos h4, if_pos (by omega)]
        · rw [if_neg h4, if_neg (by omega)]
      · rw [if_neg h3, if_neg h3]
  · rw [if_neg (fun z => h z.1)]
    unfold mz
    rw [msc_ce h, msc_ce h]
theorem cp3_0 (f : Nat → Int32) (i k : Nat) : cp3 f i k 0 = f := by
  funext q
  unfold cp3
  rw [if_neg (by omega)]
section TB5
variable {d : Nat} {P : qE → Prop} {X : qH} {mem : Nat → Nat → Int32} {sw : Bool} {o : Int64} {e : List Nat}
theorem cTab_takeOut {t n c : Nat} {v : Int32} (hX : X.length = 13) (ht : kTab t) (hn : mem t 1 = qi n) (hn8 : n ≤ 8) (hc : c < 3) (hp : P (.inl (some (.int (qi (n - (dlt (mem (t + 2)) c v n).1)))), hpo X (mup (msc mem (t + 2) (dlt (mem (t + 2)) c v n).2) t 1 (qi (dlt (mem (t + 2)) c v n).1)) sw o e)) : QW (d + 1) mTab_takeOut 0 (qen 5 [.ref t, .int (qi c), .int v]) [] (hpo X mem sw o e) P := by
  have loop : ∀ (m i : Nat), n - i = m → i ≤ n → QW (d + 1) mTab_takeOut 5 (lTab_takeOut_5 (qi c) v (qi (dlt (mem (t + 2)) c v i).1) (qi i) t) [] (hpo X (msc mem (t + 2) (dlt (mem (t + 2)) c v i).2) sw o e) P := by
    intro m
    induction m with
    | zero =>
      intro i hm hi
      have hin : i = n := by omega
      subst hin
      have hle := dlt_le (mem (t + 2)) c v i
      have er : msc mem (t + 2) (dlt (mem (t + 2)) c v i).2 t 1 = qi i := by rw [msc_ce (by omega)]; exact hn
      refine bTab_takeOut_5 hX ht (fun _ => ?_) (fun z => ?_)
      · rw [er, qi_sub hle]
        exact hp
      · rw [er] at z
        exact absurd ((qi_le (by omega) (by omega)).mpr (Nat.le_refl _)) z
    | succ m ih =>
      intro i hm hi
      have hle := dlt_le (mem (t + 2)) c v i
      have er : msc mem (t + 2) (dlt (mem (t + 2)) c v i).2 t 1 = qi n := by rw [msc_ce (by omega)]; exact hn
      refine bTab_takeOut_5 hX ht (fun z => ?_) (fun z => ?_)
      · rw [er, qi_le (by omega) (by omega)] at z
        omega
      refine cTab_cell hX ht (by omega) hc (qcl_i ?_)
      rw [msc_at]
      have h2 := ih (i + 1) (by omega) (by omega)
      have e3 : ∀ k : Nat, qi k * 3 = qi (k * 3) := fun k => qi_mul k 3
      have n3 : (3 : Int32).toNatClampNeg = 3 := rfl
      refine bTab_takeOut_21 hX ht (fun z2 => ?_) (fun z2 => ?_) (fun z2 => ?_) (fun z2 => ?_) (fun z2 => ?_) (fun z2 => ?_)
      · have e4 : dlt (mem (t + 2)) c v (i + 1) = dlt (mem (t + 2)) c v i := if_pos z2
        rw [e4] at h2
        rw [qi_1]
        exact h2
      · rw [e3]; exact qi_p (by omega)
      · rw [e3]; exact qi_p (by omega)
      · rw [e3, qi_N (by omega), n3]; omega
      · rw [e3, qi_N (by omega), n3]; omega
      · have e4 : dlt (mem (t + 2)) c v (i + 1) = ((dlt (mem (t + 2)) c v i).1 + 1, cp3 (dlt (mem (t + 2)) c v i).2 i (dlt (mem (t + 2)) c v i).1 3) := if_neg z2
        rw [e4] at h2
        rw [qi_1, qi_1, e3, e3, qi_N (by omega), qi_N (by omega), n3, mcp_msc]
        exact h2
  refine bTab_takeOut_0 hX ht ?_
  have h0 := loop n 0 rfl (Nat.zero_le n)
  rw [show (dlt (mem (t + 2)) c v 0).2 = mem (t + 2) from rfl, msc_self] at h0
  exact h0
theorem cBp_delete {cnt : Nat} {col row : Nat → Nat} {a b v : Int32} (hX : X.length = 13) (hc4 : cnt ≤ 4) (hcn : mem 14 1 = qi cnt) (hco : ∀ i, i < 4 → mem (16 + 3 * i) 0 = qi (col i) ∧ col i ≤ 3) (hro : ∀ i, i < 4 → mem (16 + 3 * i) 1 = qi (row i) ∧ row i ≤ 8) (he : e.length < 10000) (k1 : ∀ t c, qcol cnt col a b t c → P (.inl (some (.int (qi (row t - (dlt (mem (16 + 3 * t + 2)) c v (row t)).1)))), hpo X (mup (msc mem (16 + 3 * t + 2) (dlt (mem (16 + 3 * t + 2)) c v (row t)).2) (16 + 3 * t) 1 (qi (dlt (mem (16 + 3 * t + 2)) c v (row t)).1)) sw o e)) (k0 : (∀ t c, ¬ qcol cnt col a b t c) → P (.inr (225 + e.length), hpo X mem sw o (e ++ [20]))) : QW (d + 1 + 1) mBp_delete 0 (qen 4 [.ref 13, .int a, .int b, .int v]) [] (hpo X mem sw o e) P := by
  refine bBp_delete_0 hX ?_
  refine cBp_tableWithColumn hX hc4 hcn hco he (fun t c hq => qcl_i ?_) (fun h => qcl_x rfl (k0 h))
  obtain ⟨rfl, rfl, h1, h2⟩ := hq
  have ht4 : t < 4 := by omega
  have h3 := hco t ht4
  have h4 := hro t ht4
  refine bBp_delete_6 hX (kTab_at ht4) ?_
  refine cTab_takeOut hX (kTab_at ht4) h4.1 h4.2 (by omega) (qcl_i ?_)
  exact bBp_delete_11 hX (k1 t c ⟨rfl, rfl, h1, h2⟩)
end TB5
