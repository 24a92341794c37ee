section LOOP
variable {X : qH} {xs : List Int32}
theorem q_loop (hX : X.length = 13) (hS : X[0]? = some (80, xs.map Value.int)) (hl : xs.length ≤ 2560) (spl : SPL 36 X) : ∀ (f n : Nat) (mem : Nat → Nat → Int32) (sw : Bool) (o : Int64) (e : List Nat) (w5 w6 : Slot), n + f = 513 → qfr w5 → qfr w6 → qI mem sw → e.length ≤ n → QW 40 mLa_law 23 (lLa_law_23 (qi (5 * n)) w5 w6) [] (hpo X mem sw o e) (fun r => r.1 = .inl (some (.int 1))) := by
  intro f
  have low : ∀ n, n ≤ 513 → ¬ ((qi xs.length) - 5 : Int32) < qi (5 * n) → 5 * n + 5 ≤ xs.length := by
    intro n hn w
    by_cases h5 : 5 ≤ xs.length
    · rw [show (5 : Int32) = qi 5 from rfl, qi_sub (by omega)] at w
      have : ¬ xs.length - 5 < 5 * n := fun q => w ((qi_lt (by omega) (by omega)).mpr q)
      omega
    · refine absurd ?_ w
      have h0 : (0 : Int32) ≤ qi (5 * n) := (qi_le (a := 0) (by omega) (by omega)).mpr (Nat.zero_le _)
      have h1 : (qi xs.length - 5 : Int32) < 0 := by
        have : xs.length = 0 ∨ xs.length = 1 ∨ xs.length = 2 ∨ xs.length = 3 ∨ xs.length = 4 := by omega
        rcases this with q | q | q | q | q <;> rw [q] <;> decide
      exact Int32.lt_of_lt_of_le h1 h0
  induction f with
  | zero =>
    intro n mem sw o e w5 w6 hn h5 h6 hI he
    have hno : ¬ ¬ ((qi xs.length) - 5 : Int32) < qi (5 * n) := fun w => by
      have := low n (by omega) w
      omega
    exact bLa_law_23 hX hS h5 h6 (fun _ => rfl) (fun w => absurd w hno) (fun w => absurd w hno) (fun w => absurd w hno) (fun w => absurd w hno) (fun w => absurd w hno) (fun w => absurd w hno) (fun w => absurd w hno) (fun w => absurd w hno) (fun w => absurd w hno) (fun w => absurd w hno) (fun w => absurd w hno) (fun w => absurd w hno) (fun w => absurd w hno) (fun w => absurd w hno) (fun w => absurd w hno) (fun w => absurd w hno) (fun w => absurd w hno)
  | succ f ih =>
    intro n mem sw o e w5 w6 hn h5 h6 hI he
    have nx : lNx 40 (fun r => r.1 = .inl (some (.int 1))) X (qi (5 * n)) (e.length + 1) := by
      intro m s o' e' w5 w6 g5 g6 hI' he'
      refine bLa_law_852 hX hS g5 g6 ?_
      rw [show (5 : Int32) = qi 5 from rfl, qi_add, show 5 * n + 5 = 5 * (n + 1) by omega]
      exact ih (n + 1) m s o' e' w5 w6 (by omega) g5 g6 hI' (by omega)
    have ec : e.length < 10000 := by omega
    have ix : ∀ i : Nat, i < 5 → ¬ ((qi xs.length) - 5 : Int32) < qi (5 * n) → inx (qi (5 * n) + qi i) xs.length := by
      intro i hi w
      have := low n (by omega) w
      rw [qi_add]
      exact qi_inx (by omega) (by omega)
    have i1 : ¬ ((qi xs.length) - 5 : Int32) < qi (5 * n) → inx (qi (5 * n) + 1) xs.length := ix 1 (by omega)
    have i2 : ¬ ((qi xs.length) - 5 : Int32) < qi (5 * n) → inx (qi (5 * n) + 2) xs.length := ix 2 (by omega)
    have i3 : ¬ ((qi xs.length) - 5 : Int32) < qi (5 * n) → inx (qi (5 * n) + 3) xs.length := ix 3 (by omega)
    have i4 : ¬ ((qi xs.length) - 5 : Int32) < qi (5 * n) → inx (qi (5 * n) + 4) xs.length := ix 4 (by omega)
    exact bLa_law_23 hX hS h5 h6 (fun _ => rfl) (fun w => by have := low n (by omega) w; exact qi_inx (by omega) (by omega))
      (fun w _ => hLa_table (d := 32) hX hS h5 h6 (i1 w) ec hI nx)
      (fun w _ => hLa_key (d := 32) hX hS h5 h6 (i1 w) (i2 w) ec hI nx)
      (fun w _ => hLa_insert (d := 32) hX hS h5 h6 (i1 w) (i2 w) (i3 w) (i4 w) ec hI nx)
      (fun w _ => hLa_delete (d := 32) hX hS h5 h6 (i1 w) (i2 w) (i3 w) ec hI nx)
      (fun w _ => hLa_write (d := 32) hX hS h5 h6 (i1 w) (i2 w) hI nx)
      (fun w _ => hLa_wipe (d := 32) hX hS h5 h6 hI nx)
      (fun w _ => hLa_question (d := 10) hX hS h5 h6 spl ec hI nx)
      (fun w _ => hLa_place (d := 32) hX hS h5 h6 hI nx)
      (fun w _ => hLa_forget (d := 32) hX hS h5 h6 hI nx)
      (fun w _ => hLa_run (d := 10) hX hS h5 h6 (i1 w) ec hI nx)
      (fun w _ => hLa_row (d := 32) hX hS h5 h6 (i1 w) (i2 w) ec hI nx)
      (fun w _ => hLa_times (d := 32) hX hS h5 h6 (i1 w) ec hI nx)
      (fun w _ => hLa_total (d := 32) hX hS h5 h6 hI nx)
      (fun w _ => hLa_alike (d := 10) hX hS h5 h6 (i1 w) (i2 w) ec hI nx)
      (fun w _ => hLa_sources (d := 10) hX hS h5 h6 (i1 w) ec hI nx)
      (fun _ => nx mem sw o e w5 w6 h5 h6 hI (by omega))
end LOOP
