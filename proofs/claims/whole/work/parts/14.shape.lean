def shp : List (Nat × List (Option Nat)) := [(0, [some 14, some 28, some 30, some 35, none, none, some 156, some 161, some 164, some 167, some 170, some 180, some 190]), (3, [some 15, none]), (68, [some 16, some 19, some 22, some 25]), (9, [none, none, some 17, some 18]), (65, List.replicate 3 none), (64, List.replicate 24 none), (9, [none, none, some 20, some 21]), (65, List.replicate 3 none), (64, List.replicate 24 none), (9, [none, none, some 23, some 24]), (65, List.replicate 3 none), (64, List.replicate 24 none), (9, [none, none, some 26, some 27]), (65, List.replicate 3 none), (64, List.replicate 24 none), (10, [some 29, none]), (66, List.replicate 200 none), (8, [some 31]), (11, [some 32, some 33, some 34, none, none]), (64, List.replicate 201 none), (64, List.replicate 201 none), (64, List.replicate 201 none), (69, [some 36, some 60, some 84, some 108, some 132]), (7, [none, some 37, some 38]), (70, [some 39, some 46, some 53]), (64, List.replicate 2 none), (2, [none, none, none, none, some 40, some 41, some 42, some 43, some 44, some 45]), (64, List.replicate 4 none), (64, List.replicate 4 none), (65, List.replicate 6 none), (64, List.replicate 15 none), (64, List.replicate 15 none), (64, List.replicate 15 none), (2, [none, none, none, none, some 47, some 48, some 49, some 50, some 51, some 52]), (64, List.replicate 4 none), (64, List.replicate 4 none), (65, List.replicate 6 none), (64, List.replicate 15 none), (64, List.replicate 15 none), (64, List.replicate 15 none), (2, [none, none, none, none, some 54, some 55, some 56, some 57, some 58, some 59]), (64, List.replicate 4 none), (64, List.replicate 4 none), (65, List.replicate 6 none), (64, List.replicate 15 none), (64, List.replicate 15 none), (64, List.replicate 15 none), (7, [none, some 61, some 62]), (70, [some 63, some 70, some 77]), (64, List.replicate 2 none), (2, [none, none, none, none, some 64, some 65, some 66, some 67, some 68, some 69]), (64, List.replicate 4 none), (64, List.replicate 4 none), (65, List.replicate 6 none), (64, List.replicate 15 none), (64, List.replicate 15 none), (64, List.replicate 15 none), (2, [none, none, none, none, some 71, some 72, some 73, some 74, some 75, some 76]), (64, List.replicate 4 none), (64, List.replicate 4 none), (65, List.replicate 6 none), (64, List.replicate 15 none), (64, List.replicate 15 none), (64, List.replicate 15 none), (2, [none, none, none, none, some 78, some 79, some 80, some 81, some 82, some 83]), (64, List.replicate 4 none), (64, List.replicate 4 none), (65, List.replicate 6 none), (64, List.replicate 15 none), (64, List.replicate 15 none), (64, List.replicate 15 none), (7, [none, some 85, some 86]), (70, [some 87, some 94, some 101]), (64, List.replicate 2 none), (2, [none, none, none, none, some 88, some 89, some 90, some 91, some 92, some 93]), (64, List.replicate 4 none), (64, List.replicate 4 none), (65, List.replicate 6 none), (64, List.replicate 15 none), (64, List.replicate 15 none), (64, List.replicate 15 none), (2, [none, none, none, none, some 95, some 96, some 97, some 98, some 99, some 100]), (64, List.replicate 4 none), (64, List.replicate 4 none), (65, List.replicate 6 none), (64, List.replicate 15 none), (64, List.replicate 15 none), (64, List.replicate 15 none), (2, [none, none, none, none, some 102, some 103, some 104, some 105, some 106, some 107]), (64, List.replicate 4 none), (64, List.replicate 4 none), (65, List.replicate 6 none), (64, List.replicate 15 none), (64, List.replicate 15 none), (64, List.replicate 15 none), (7, [none, some 109, some 110]), (70, [some 111, some 118, some 125]), (64, List.replicate 2 none), (2, [none, none, none, none, some 112, some 113, some 114, some 115, some 116, some 117]), (64, List.replicate 4 none), (64, List.replicate 4 none), (65, List.replicate 6 none), (64, List.replicate 15 none), (64, List.replicate 15 none), (64, List.replicate 15 none), (2, [none, none, none, none, some 119, some 120, some 121, some 122, some 123, some 124]), (64, List.replicate 4 none), (64, List.replicate 4 none), (65, List.replicate 6 none), (64, List.replicate 15 none), (64, List.replicate 15 none), (64, List.replicate 15 none), (2, [none, none, none, none, some 126, some 127, some 128, some 129, some 130, some 131]), (64, List.replicate 4 none), (64, List.replicate 4 none), (65, List.replicate 6 none), (64, List.replicate 15 none), (64, List.replicate 15 none), (64, List.replicate 15 none), (7, [none, some 133, some 134]), (70, [some 135, some 142, some 149]), (64, List.replicate 2 none), (2, [none, none, none, none, some 136, some 137, some 138, some 139, some 140, some 141]), (64, List.replicate 4 none), (64, List.replicate 4 none), (65, List.replicate 6 none), (64, List.replicate 15 none), (64, List.replicate 15 none), (64, List.replicate 15 none), (2, [none, none, none, none, some 143, some 144, some 145, some 146, some 147, some 148]), (64, List.replicate 4 none), (64, List.replicate 4 none), (65, List.replicate 6 none), (64, List.replicate 15 none), (64, List.replicate 15 none), (64, List.replicate 15 none), (2, [none, none, none, none, some 150, some 151, some 152, some 153, some 154, some 155]), (64, List.replicate 4 none), (64, List.replicate 4 none), (65, List.replicate 6 none), (64, List.replicate 15 none), (64, List.replicate 15 none), (64, List.replicate 15 none), (6, [some 157, some 158, some 159, some 160]), (64, List.replicate 4 none), (65, List.replicate 4 none), (64, List.replicate 6 none), (64, List.replicate 3 none), (1, [none, none, some 162, some 163]), (64, List.replicate 192 none), (64, List.replicate 64 none), (1, [none, none, some 165, some 166]), (64, List.replicate 192 none), (64, List.replicate 64 none), (1, [none, none, some 168, some 169]), (64, List.replicate 192 none), (64, List.replicate 64 none), (4, [none, none, none, some 171, none, some 172, some 173, none, some 174, some 175, some 176, none, some 177, some 178, some 179]), (64, List.replicate 3 none), (64, List.replicate 6 none), (64, List.replicate 6 none), (64, List.replicate 4 none), (64, List.replicate 4 none), (64, List.replicate 4 none), (64, List.replicate 15 none), (64, List.replicate 27 none), (64, List.replicate 27 none), (4, [none, none, none, some 181, none, some 182, some 183, none, some 184, some 185, some 186, none, some 187, some 188, some 189]), (64, List.replicate 3 none), (64, List.replicate 6 none), (64, List.replicate 6 none), (64, List.replicate 4 none), (64, List.replicate 4 none), (64, List.replicate 4 none), (64, List.replicate 15 none), (64, List.replicate 27 none), (64, List.replicate 27 none), (5, [some 191, some 192]), (64, List.replicate 4 none), (65, List.replicate 4 none), (12, [none, none, some 194, some 195, some 196, some 197, none, some 198, none, none, none, none, none, none, some 199, some 200, some 201, some 202, some 203, some 204, some 205, some 206, some 207, some 208, some 209, some 210, none, some 211, some 212, none, some 213, some 214, none, none, none, some 215, some 216, some 217, some 218, some 219, some 220, some 221, some 222, some 223]), (64, List.replicate 4 none), (64, List.replicate 4 none), (64, List.replicate 96 none), (65, List.replicate 12 none), (66, List.replicate 200 none), (64, List.replicate 5 none), (64, List.replicate 10 none), (65, List.replicate 15 none), (64, List.replicate 15 none), (64, List.replicate 45 none), (64, List.replicate 15 none), (64, List.replicate 60 none), (64, List.replicate 60 none), (64, List.replicate 15 none), (64, List.replicate 90 none), (64, List.replicate 90 none), (65, List.replicate 90 none), (64, List.replicate 192 none), (64, List.replicate 64 none), (64, List.replicate 192 none), (64, List.replicate 64 none), (64, List.replicate 192 none), (64, List.replicate 64 none), (64, List.replicate 4 none), (64, List.replicate 3 none), (64, List.replicate 64 none), (64, List.replicate 64 none), (64, List.replicate 2 none), (64, List.replicate 8 none), (64, List.replicate 4 none)]
def swp (sw : Bool) (r : Nat) : Nat := match sw with
  | false => r
  | true => if r = 161 then 164 else if r = 164 then 161 else r
def slv (mem : Nat → Int32) (sw : Bool) : Nat → List (Option Nat) → List Value
  | _, [] => []
  | k, none :: r => .int (mem k) :: slv mem sw (k + 1) r
  | k, some i :: r => .ref (swp sw i) :: slv mem sw (k + 1) r
def sce (mem : Nat → Nat → Int32) (sw : Bool) : Nat → List (Nat × List (Option Nat)) → qH
  | _, [] => []
  | i, s :: r => (s.1, slv (mem i) sw 0 s.2) :: sce mem sw (i + 1) r
def hpo (X : qH) (mem : Nat → Nat → Int32) (sw : Bool) (o : Int64) (e : List Nat) : qH := X ++ (sce mem sw 13 shp ++ ((67, [.long o]) :: e.map (fun t => (t, []))))
def mup (mem : Nat → Nat → Int32) (i k : Nat) (v : Int32) : Nat → Nat → Int32 := fun j => if j = i then (fun q => if q = k then v else mem i q) else mem j
theorem mup_at (mem : Nat → Nat → Int32) (i k : Nat) (v : Int32) : mup mem i k v i k = v := by simp [mup]
theorem mup_sl {mem : Nat → Nat → Int32} {i k q : Nat} {v : Int32} (h : q ≠ k) : mup mem i k v i q = mem i q := by simp [mup, h]
theorem mup_ce {mem : Nat → Nat → Int32} {i k j : Nat} {v : Int32} (h : j ≠ i) : mup mem i k v j = mem j := by simp [mup, h]
theorem slv_len (m : Nat → Int32) (sw : Bool) : ∀ (l : List (Option Nat)) (k : Nat), (slv m sw k l).length = l.length
  | [], _ => rfl
  | none :: r, k => by show (slv m sw (k + 1) r).length + 1 = _; rw [slv_len m sw r]; rfl
  | some i :: r, k => by show (slv m sw (k + 1) r).length + 1 = _; rw [slv_len m sw r]; rfl
theorem slv_int (m : Nat → Int32) (sw : Bool) : ∀ (l : List (Option Nat)) (b k : Nat), l[k]? = some none → (slv m sw b l)[k]? = some (.int (m (b + k)))
  | [], _, _, h => by cases h
  | none :: r, b, 0, _ => rfl
  | some i :: r, b, 0, h => by cases h
  | none :: r, b, k + 1, h => by
    show (slv m sw (b + 1) r)[k]? = _
    rw [slv_int m sw r (b + 1) k h, Nat.add_assoc, Nat.add_comm 1 k]
  | some i :: r, b, k + 1, h => by
    show (slv m sw (b + 1) r)[k]? = _
    rw [slv_int m sw r (b + 1) k h, Nat.add_assoc, Nat.add_comm 1 k]
theorem slv_ref (m : Nat → Int32) (sw : Bool) {i : Nat} : ∀ (l : List (Option Nat)) (b k : Nat), l[k]? = some (some i) → (slv m sw b l)[k]? = some (.ref (swp sw i))
  | [], _, _, h => by cases h
  | none :: r, b, 0, h => by cases h
  | some j :: r, b, 0, h => by cases h; rfl
  | none :: r, b, k + 1, h => slv_ref m sw r (b + 1) k h
  | some j :: r, b, k + 1, h => slv_ref m sw r (b + 1) k h
theorem slv_congr (m m' : Nat → Int32) (sw : Bool) : ∀ (l : List (Option Nat)) (b : Nat), (∀ k, k < l.length → m (b + k) = m' (b + k)) → slv m sw b l = slv m' sw b l
  | [], _, _ => rfl
  | none :: r, b, h => by
    show Value.int (m b) :: _ = Value.int (m' b) :: _
    have h0 := h 0 (Nat.succ_pos _)
    rw [Nat.add_zero] at h0
    rw [h0, slv_congr m m' sw r (b + 1) (fun k hk => by have := h (k + 1) (Nat.succ_lt_succ hk); rwa [Nat.add_assoc, Nat.add_comm 1 k])]
  | some i :: r, b, h => by
    show Value.ref _ :: _ = Value.ref _ :: _
    rw [slv_congr m m' sw r (b + 1) (fun k hk => by have := h (k + 1) (Nat.succ_lt_succ hk); rwa [Nat.add_assoc, Nat.add_comm 1 k])]
theorem slv_set (m : Nat → Int32) (sw : Bool) (v : Int32) : ∀ (l : List (Option Nat)) (b k : Nat), l[k]? = some none → (slv m sw b l).set k (.int v) = slv (fun q => if q = b + k then v else m q) sw b l
  | [], _, _, h => by cases h
  | some i :: r, b, 0, h => by cases h
  | none :: r, b, 0, _ => by
    show Value.int v :: slv m sw (b + 1) r = Value.int (if b = b + 0 then v else m b) :: _
    rw [if_pos (Nat.add_zero b).symm]
    congr 1
    refine slv_congr _ _ sw r (b + 1) (fun k _ => ?_)
    rw [if_neg (by omega)]
  | none :: r, b, k + 1, h => by
    show Value.int (m b) :: (slv m sw (b + 1) r).set k (.int v) = Value.int (if b = b + (k + 1) then v else m b) :: _
    rw [if_neg (by omega), slv_set m sw v r (b + 1) k h, Nat.add_assoc, Nat.add_comm 1 k]
  | some i :: r, b, k + 1, h => by
    show Value.ref _ :: (slv m sw (b + 1) r).set k (.int v) = Value.ref _ :: _
    rw [slv_set m sw v r (b + 1) k h, Nat.add_assoc, Nat.add_comm 1 k]
theorem sce_len (mem : Nat → Nat → Int32) (sw : Bool) : ∀ (l : List (Nat × List (Option Nat))) (i : Nat), (sce mem sw i l).length = l.length
  | [], _ => rfl
  | s :: r, i => by show (sce mem sw (i + 1) r).length + 1 = _; rw [sce_len mem sw r]; rfl
theorem sce_get (mem : Nat → Nat → Int32) (sw : Bool) {s : Nat × List (Option Nat)} : ∀ (l : List (Nat × List (Option Nat))) (b j : Nat), l[j]? = some s → (sce mem sw b l)[j]? = some (s.1, slv (mem (b + j)) sw 0 s.2)
  | [], _, _, h => by cases h
  | t :: r, b, 0, h => by cases h; rfl
  | t :: r, b, j + 1, h => by
    show (sce mem sw (b + 1) r)[j]? = _
    rw [sce_get mem sw r (b + 1) j h, Nat.add_assoc, Nat.add_comm 1 j]
theorem sce_congr (m m' : Nat → Nat → Int32) (sw : Bool) : ∀ (l : List (Nat × List (Option Nat))) (b : Nat), (∀ j, m (b + j) = m' (b + j)) → sce m sw b l = sce m' sw b l
  | [], _, _ => rfl
  | s :: r, b, h => by
    show (s.1, slv (m b) sw 0 s.2) :: _ = (s.1, slv (m' b) sw 0 s.2) :: _
    have h0 := h 0
    rw [Nat.add_zero] at h0
    rw [h0, sce_congr m m' sw r (b + 1) (fun j => by have := h (j + 1); rwa [Nat.add_assoc, Nat.add_comm 1 j])]
theorem sce_set (mem : Nat → Nat → Int32) (sw : Bool) (v : Int32) {s : Nat × List (Option Nat)} {k : Nat} (hk : s.2[k]? = some none) : ∀ (l : List (Nat × List (Option Nat))) (b j : Nat), l[j]? = some s → (sce mem sw b l).set j (s.1, (slv (mem (b + j)) sw 0 s.2).set k (.int v)) = sce (mup mem (b + j) k v) sw b l
  | [], _, _, h => by cases h
  | t :: r, b, 0, h => by
    cases h
    show (s.1, (slv (mem (b + 0)) sw 0 s.2).set k (.int v)) :: sce mem sw (b + 1) r = (s.1, slv (mup mem (b + 0) k v b) sw 0 s.2) :: _
    rw [slv_set _ sw v s.2 0 k hk]
    congr 1
    · congr 2
      funext q
      simp [mup]
    · refine sce_congr _ _ sw r (b + 1) (fun j => (mup_ce (by omega)).symm)
  | t :: r, b, j + 1, h => by
    show (t.1, slv (mem b) sw 0 t.2) :: (sce mem sw (b + 1) r).set j _ = (t.1, slv (mup mem (b + (j + 1)) k v b) sw 0 t.2) :: _
    have e1 : b + (j + 1) = b + 1 + j := by omega
    rw [e1, sce_set mem sw v hk r (b + 1) j h, mup_ce (show b ≠ b + 1 + j by omega)]
section HPO
variable {X : qH} {mem : Nat → Nat → Int32} {sw : Bool} {o : Int64} {e : List Nat} {j k : Nat} {s : Nat × List (Option Nat)}
theorem hpo_get (hX : X.length = 13) (hj : shp[j]? = some s) : (hpo X mem sw o e)[13 + j]? = some (s.1, slv (mem (13 + j)) sw 0 s.2) := by
  have h1 := sce_get mem sw shp 13 j hj
  have h2 := q_apr X (sce mem sw 13 shp ++ ((67, [.long o]) :: e.map (fun t => (t, [])))) j
  rw [hX] at h2
  exact h2.trans (q_apl h1)
theorem hpo_set (hX : X.length = 13) (hj : shp[j]? = some s) (hk : s.2[k]? = some none) (v : Int32) : (hpo X mem sw o e).set (13 + j) (s.1, (slv (mem (13 + j)) sw 0 s.2).set k (.int v)) = hpo X (mup mem (13 + j) k v) sw o e := by
  unfold hpo
  rw [List.set_append_right _ _ (by omega), hX, Nat.add_sub_cancel_left, q_sap (sce_get mem sw shp 13 j hj), sce_set mem sw v hk shp 13 j hj]
theorem hpo_len (hX : X.length = 13) : (hpo X mem sw o e).length = 224 + 1 + e.length := by
  unfold hpo
  rw [List.length_append, List.length_append, List.length_cons, List.length_map, sce_len, hX]
  have : shp.length = 224 - 13 := by decide +kernel
  omega
end HPO
