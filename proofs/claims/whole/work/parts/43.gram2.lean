/-- the values of a list stand in the slots behind i -/
def sls (mem : Nat → Nat → Int32) (B i : Nat) (l : List (Int32 × Int32)) : Prop := ∀ k v, l[k]? = some v → mem (B + 4) (i + k) = v.1 ∧ mem (B + 5) (i + k) = -1 ∧ mem (B + 6) (i + k) = v.2
def pls (K V : Nat → Int32) : Nat → Nat → Option (List (Int32 × Int32)) × Nat
  | 0, n => (some [], n)
  | f + 1, n => match pv K V n with
    | (none, n1) => (none, n1)
    | (some v, n1) => if ¬ f = 0 ∧ K n1 = 44 then (match pls K V f (n1 + 1) with
      | (none, n2) => (none, n2)
      | (some l, n2) => (some (v :: l), n2)) else (some [v], n1)
/-- the sources at n, behind acc: table and name -/
def psr (c : Int32) (K V : Nat → Int32) : Nat → Nat → List (Int32 × Int32) → Option (List (Int32 × Int32)) × Nat
  | 0, n, acc => (some acc, n)
  | f + 1, n, acc => if K n = 4 ∧ ¬ V n < 0 ∧ ¬ c ≤ V n then (if K (n + 1) = 3 ∧ ∀ v ∈ acc, ¬ v.2 = V (n + 1) then (if ¬ f = 0 ∧ K (n + 2) = 44 then psr c K V f (n + 3) (acc ++ [(V n, V (n + 1))]) else (some (acc ++ [(V n, V (n + 1))]), n + 2)) else (none, n + 1)) else (none, n)
/-- the conditions at n -/
def pcs (K V : Nat → Int32) : Nat → Nat → Option (List ((Int32 × Int32) × Int32 × (Int32 × Int32))) × Nat
  | 0, n => (some [], n)
  | f + 1, n => match pv K V n with
    | (none, n1) => (none, n1)
    | (some v, n1) => if K n1 = 60 ∨ K n1 = 61 then (match pv K V (n1 + 1) with
      | (none, n2) => (none, n2)
      | (some w, n2) => if ¬ f = 0 ∧ K n2 = 10 then (match pcs K V f (n2 + 1) with
        | (none, n3) => (none, n3)
        | (some l, n3) => (some ((v, (if K n1 = 60 then 1 else 0), w) :: l), n3)) else (some [(v, (if K n1 = 60 then 1 else 0), w)], n2)) else (none, n1)
def srs (mem : Nat → Nat → Int32) (B : Nat) (l : List (Int32 × Int32)) : Prop := mem B 2 = qi l.length ∧ ∀ k v, l[k]? = some v → mem (B + 1) k = v.1 ∧ mem (B + 2) k = v.2
section GRB
variable {d : Nat} {P : qE → Prop} {X : qH} {sw : Bool} {o : Int64} {e : List Nat} {N : Nat} {K V : Nat → Int32} {S : Nat → Nat} {B : Nat}
theorem rdVal {i n : Nat} {mem : Nat → Nat → Int32} (hX : X.length = 13) (hB : kBl B) (hB1 : 35 < B) (hi : i < 15) (ht : qTk mem N K S V) (hn : mem 31 4 = qi n) (hN : n ≤ N)
    (k1 : ∀ m' v n', pv K V n = (some v, n') → n' ≤ N → m' 31 4 = qi n' → (∀ j q, ¬ (j = 31 ∧ q = 4) → ¬ (B + 4 ≤ j ∧ j < B + 7 ∧ q = i) → m' j q = mem j q) → (m' (B + 4) i = v.1 ∧ m' (B + 5) i = -1 ∧ m' (B + 6) i = v.2) → P (.inl (some (.int 1)), hpo X m' sw o e))
    (k0 : ∀ m' n', pv K V n = (none, n') → n' ≤ N → m' 31 4 = qi n' → (∀ j q, ¬ (j = 31 ∧ q = 4) → ¬ (B + 4 ≤ j ∧ j < B + 7 ∧ q = i) → m' j q = mem j q) → P (.inl (some (.int 0)), hpo X m' sw o e)) :
    QW (d + 1) mRd_readValue 0 (qen 5 [.ref 30, .ref B, .int (qi i)]) [] (hpo X mem sw o e) P := by
  refine cRd_readValue hX hB hB1 hi ht hn hN fun m' r n' h1 h2 h3 h4 h5 => ?_
  rcases r with _ | ⟨nm, x⟩
  · exact k0 m' n' h1 h2 h3 h4
  · exact k1 m' (nm, x) n' h1 h2 h3 h4 (h5 nm x rfl)
theorem rdOut (hX : X.length = 13) (hB : kBl B) (hB1 : 35 < B) : ∀ (f i n : Nat) (mem : Nat → Nat → Int32), i + (f + 1) = 3 → qTk mem N K S V → mem 31 4 = qi n → n ≤ N → mem B 1 = qi i →
    (∀ m' l n', pls K V (f + 1) n = (some l, n') → n' ≤ N → m' 31 4 = qi n' → (∀ j q, ¬ (j = 31 ∧ q = 4) → ¬ (j = B ∧ q = 1) → ¬ (B + 4 ≤ j ∧ j < B + 7 ∧ i ≤ q ∧ q < 3) → m' j q = mem j q) → m' B 1 = qi (i + l.length) → 1 ≤ l.length → l.length ≤ f + 1 → sls m' B i l → P (.inl (some (.int 1)), hpo X m' sw o e)) →
    (∀ m' n', pls K V (f + 1) n = (none, n') → n' ≤ N → m' 31 4 = qi n' → (∀ j q, ¬ (j = 31 ∧ q = 4) → ¬ (j = B ∧ q = 1) → ¬ (B + 4 ≤ j ∧ j < B + 7 ∧ i ≤ q ∧ q < 3) → m' j q = mem j q) → P (.inl (some (.int 0)), hpo X m' sw o e)) →
    QW (d + 1 + 1) mRd_readOutputs 4 (lRd_readOutputs_4 1 (qi i) B) [] (hpo X mem sw o e) P := by
  intro f
  induction f with
  | zero =>
    intro i n mem hi ht hn hN hc k1 k0
    obtain rfl : i = 2 := by omega
    refine bRd_readOutputs_4 hX hB (fun z => absurd z (by decide)) (fun _ z => absurd z (by decide)) (fun _ _ => rdVal hX hB hB1 (by omega) ht hn hN ?_ ?_)
    · intro m1 v n1 h1 h2 h3 h4 h5
      refine qcl_i (bRd_readOutputs_19 hX hB (fun _ _ => ?_) (fun _ z => absurd z (by decide)) (fun z => absurd z (by decide)))
      have hm : m1 B 1 = qi 2 := by rw [h4 _ _ (by omega) (by omega)]; exact hc
      rw [hm]
      refine bRd_readOutputs_57 hX hB (bRd_readOutputs_58 hX hB (bRd_readOutputs_4 hX hB (fun _ => ?_) (fun z => absurd (by decide) z) (fun z => absurd (by decide) z)))
      refine k1 _ [v] n1 (by simp [pls, h1]) h2 (by (repeat (rw [mup_q]; first | rw [if_pos (by omega)] | rw [if_neg (by omega)])); exact h3) (fun j q a b c => by (repeat (rw [mup_q]; first | rw [if_pos (by omega)] | rw [if_neg (by omega)])); exact h4 j q a (by omega)) (by (repeat (rw [mup_q]; first | rw [if_pos (by omega)] | rw [if_neg (by omega)])); rfl) (by simp) (by simp) ?_
      intro k w hk
      rcases k with _ | k
      · cases hk
        exact ⟨by (repeat (rw [mup_q]; first | rw [if_pos (by omega)] | rw [if_neg (by omega)])); exact h5.1, by (repeat (rw [mup_q]; first | rw [if_pos (by omega)] | rw [if_neg (by omega)])); exact h5.2.1, by (repeat (rw [mup_q]; first | rw [if_pos (by omega)] | rw [if_neg (by omega)])); exact h5.2.2⟩
      · simp at hk
    · intro m1 n1 h1 h2 h3 h4
      exact qcl_i (bRd_readOutputs_19 hX hB (fun z => absurd rfl z) (fun z => absurd rfl z) (fun _ => k0 _ n1 (by simp [pls, h1]) h2 h3 (fun j q a b c => h4 j q a (by omega))))
  | succ f ih =>
    intro i n mem hi ht hn hN hc k1 k0
    have hi3 : ¬ (3 : Int32) ≤ qi i := fun z => by have := (qi_le (a := 3) (by omega) (by omega)).mp z; omega
    have hi4 : ¬ (3 : Int32) ≤ qi i + 1 := fun z => by rw [qi_1] at z; have := (qi_le (a := 3) (by omega) (by omega)).mp z; omega
    refine bRd_readOutputs_4 hX hB (fun z => absurd z hi3) (fun _ z => absurd z (by decide)) (fun _ _ => rdVal hX hB hB1 (by omega) ht hn hN ?_ ?_)
    · intro m1 v n1 h1 h2 h3 h4 h5
      have hm : m1 B 1 = qi i := by rw [h4 _ _ (by omega) (by omega)]; exact hc
      have ht1 : qTk (mup m1 B 1 (m1 B 1 + 1)) N K S V := qTk_mono (by (repeat (rw [mup_q]; first | rw [if_pos (by omega)] | rw [if_neg (by omega)])); exact h4 _ _ (by omega) (by omega)) (fun j q a b => by (repeat (rw [mup_q]; first | rw [if_pos (by omega)] | rw [if_neg (by omega)])); exact h4 _ _ (by omega) (by omega)) ht
      have hn1 : mup m1 B 1 (m1 B 1 + 1) 31 4 = qi n1 := by (repeat (rw [mup_q]; first | rw [if_pos (by omega)] | rw [if_neg (by omega)])); exact h3
      refine qcl_i (bRd_readOutputs_19 hX hB (fun _ z => absurd z hi4) (fun _ _ => cTok_take hX ht1 hn1 h2 (by decide) (fun x y => ?_) (fun x => ?_)) (fun z => absurd z (by decide)))
      · refine qcl_i (bRd_readOutputs_50 hX hB (fun z => absurd z (by decide)) (fun _ => bRd_readOutputs_58 hX hB ?_))
        rw [qi_1]
        refine ih (i + 1) (n1 + 1) _ (by omega) (qTk_at _ ht1) (mup_at _ _ _ _) (by omega) (by (repeat (rw [mup_q]; first | rw [if_pos (by omega)] | rw [if_neg (by omega)])); rw [hm, qi_1]) ?_ ?_
        · intro m2 l n2 g1 g2 g3 g4 g5 g6 g7 g8
          refine k1 _ (v :: l) n2 (by simp [pls, h1, x] at g1 ⊢; simp [g1]) g2 g3 (fun j q a b c => ?_) (by rw [g5, List.length_cons]; congr 1; omega) (by simp) (by simp; omega) ?_
          · rw [g4 j q a b (by omega)]
            (repeat (rw [mup_q]; first | rw [if_pos (by omega)] | rw [if_neg (by omega)]))
            exact h4 j q a (by omega)
          · intro k w hk
            rcases k with _ | k
            · cases hk
              refine ⟨?_, ?_, ?_⟩
              · rw [g4 _ _ (by omega) (by omega) (by omega)]; (repeat (rw [mup_q]; first | rw [if_pos (by omega)] | rw [if_neg (by omega)])); exact h5.1
              · rw [g4 _ _ (by omega) (by omega) (by omega)]; (repeat (rw [mup_q]; first | rw [if_pos (by omega)] | rw [if_neg (by omega)])); exact h5.2.1
              · rw [g4 _ _ (by omega) (by omega) (by omega)]; (repeat (rw [mup_q]; first | rw [if_pos (by omega)] | rw [if_neg (by omega)])); exact h5.2.2
            · have := g8 k w (by simpa using hk)
              rw [show i + (k + 1) = i + 1 + k by omega]
              exact this
        · intro m2 n2 g1 g2 g3 g4
          refine k0 _ n2 (by simp [pls, h1, x] at g1 ⊢; simp [g1]) g2 g3 (fun j q a b c => ?_)
          rw [g4 j q a b (by omega)]
          (repeat (rw [mup_q]; first | rw [if_pos (by omega)] | rw [if_neg (by omega)]))
          exact h4 j q a (by omega)
      · refine qcl_i (bRd_readOutputs_50 hX hB (fun _ => bRd_readOutputs_57 hX hB (bRd_readOutputs_58 hX hB ?_)) (fun z => absurd rfl z))
        have fin : P (.inl (some (.int 1)), hpo X (mup m1 B 1 (m1 B 1 + 1)) sw o e) := by
          refine k1 _ [v] n1 (by simp [pls, h1, x]) h2 hn1 (fun j q a b c => by (repeat (rw [mup_q]; first | rw [if_pos (by omega)] | rw [if_neg (by omega)])); exact h4 j q a (by omega)) (by (repeat (rw [mup_q]; first | rw [if_pos (by omega)] | rw [if_neg (by omega)])); rw [hm, qi_1]; rfl) (by simp) (by simp) ?_
          intro k w hk
          rcases k with _ | k
          · cases hk
            exact ⟨by (repeat (rw [mup_q]; first | rw [if_pos (by omega)] | rw [if_neg (by omega)])); exact h5.1, by (repeat (rw [mup_q]; first | rw [if_pos (by omega)] | rw [if_neg (by omega)])); exact h5.2.1, by (repeat (rw [mup_q]; first | rw [if_pos (by omega)] | rw [if_neg (by omega)])); exact h5.2.2⟩
          · simp at hk
        exact bRd_readOutputs_4 hX hB (fun _ => fin) (fun _ _ => fin) (fun _ z => absurd rfl z)
    · intro m1 n1 h1 h2 h3 h4
      exact qcl_i (bRd_readOutputs_19 hX hB (fun z => absurd rfl z) (fun z => absurd rfl z) (fun _ => k0 _ n1 (by simp [pls, h1]) h2 h3 (fun j q a b c => h4 j q a (by omega))))
end GRB
