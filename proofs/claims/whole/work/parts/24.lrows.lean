section LRW
variable {d : Nat} {M : qM} {pc : Nat} {ls : List Slot} {st : List Value} {P : qE → Prop} {X : qH} {mem : Nat → Nat → Int32} {sw : Bool} {o : Int64} {e : List Nat}
theorem hpo_out (hX : X.length = 13) : (hpo X mem sw o e)[224]? = some (67, [.long o]) := by
  have hl : (sce mem sw 13 shp).length = 211 := by rw [sce_len]; decide +kernel
  have h1 := q_apr X (sce mem sw 13 shp ++ ((67, [.long o]) :: e.map (fun t => (t, [])))) 211
  rw [hX] at h1
  have h2 := q_apr (sce mem sw 13 shp) ((67, [.long o]) :: e.map (fun t => (t, []))) 0
  rw [hl] at h2
  exact h1.trans h2
theorem hpo_oset (hX : X.length = 13) (v : Int64) : (hpo X mem sw o e).set 224 (67, [.long v]) = hpo X mem sw v e := by
  have hl : (sce mem sw 13 shp).length = 211 := by rw [sce_len]; decide +kernel
  unfold hpo
  rw [List.set_append_right _ _ (by omega), hX, List.set_append_right _ _ (by omega), hl]
  rfl
theorem hpo_exc (hX : X.length = 13) (t : Nat) : (hpo X mem sw o (e ++ [t]))[225 + e.length]? = some (t, []) := by
  have hl := hpo_len (mem := mem) (sw := sw) (o := o) (e := e) hX
  have h1 := q_apr (hpo X mem sw o e) [(t, [])] 0
  rw [hl, hpo_new] at h1
  exact h1
theorem hpo_X0 {c : qC} (h0 : X[0]? = some c) : (hpo X mem sw o e)[0]? = some c := by
  unfold hpo
  exact q_apl h0
theorem MW.lald (hX : X.length = 13) (hd : decode M.2.1 pc = .ok (.laload, 1)) (kk : QW d M (pc + 1) ls (.long o :: st) (hpo X mem sw o e) P) : QW d M pc ls (.int 0 :: .ref 224 :: st) (hpo X mem sw o e) P :=
  QW.lald (l := [.long o]) hd (hpo_out hX) rfl (by decide) (by decide) rfl kk
theorem MW.last {v : Int64} (hX : X.length = 13) (hd : decode M.2.1 pc = .ok (.lastore, 1)) (kk : QW d M (pc + 1) ls st (hpo X mem sw v e) P) : QW d M pc ls (.long v :: .int 0 :: .ref 224 :: st) (hpo X mem sw o e) P := by
  refine QW.last (l := [.long o]) (v := .long o) hd (hpo_out hX) rfl (by decide) rfl (by decide) rfl ?_
  show QW d M (pc + 1) ls st ((hpo X mem sw o e).set 224 (67, [.long v])) P
  rw [hpo_oset hX]
  exact kk
theorem MW.sald {x : Int32} {xs : List Int32} (h0 : X[0]? = some (80, xs.map Value.int)) (hd : decode M.2.1 pc = .ok (.iaload, 1)) (hx : inx x xs.length) (kk : QW d M (pc + 1) ls (.int (xs.getD x.toNatClampNeg 0) :: st) (hpo X mem sw o e) P) : QW d M pc ls (.int x :: .ref 0 :: st) (hpo X mem sw o e) P := by
  refine QW.iald (v := .int (xs.getD x.toNatClampNeg 0)) hd (hpo_X0 h0) rfl (by decide) hx.1 ?_ kk
  rw [List.getElem?_map, List.getD_eq_getElem?_getD, List.getElem?_eq_getElem hx.2]
  rfl
theorem MW.slen {xs : List Int32} (h0 : X[0]? = some (80, xs.map Value.int)) (hd : decode M.2.1 pc = .ok (.arraylength, 1)) (kk : QW d M (pc + 1) ls (.int (qi xs.length) :: st) (hpo X mem sw o e) P) : QW d M pc ls (.ref 0 :: st) (hpo X mem sw o e) P :=
  QW.alen (v := qi xs.length) hd (hpo_X0 h0) rfl (by decide) (by rw [List.length_map]) kk
theorem QW.tswI {h : qH} {x : Int32} {j : Nat} {dflt : Int} {offs : Array Int} {len : Nat} {off : Int} {tgt : Nat} (hd : decode M.2.1 pc = .ok (.tableswitch dflt 0 14 offs, len)) (hx : x = qi j) (hj : j < 15) (ho : offs[j]? = some off) (ht : (pc : Int) + off = (tgt : Int)) (kk : QW d M tgt ls st h P) : QW d M pc ls (.int x :: st) h P := by
  intro l s0 a0 A n0 p e R s m args below meth c H locs I S
  have e1 : x.toInt = (j : Int) := by rw [hx]; exact Int32.toInt_ofNat_of_lt (by omega)
  exact lv_tableIn I.1 I.2.1 hd (by rw [e1]; omega) (by rw [e1]; omega) (by rw [e1]; simpa using ho) ht (kk I S)
theorem QW.tswO {h : qH} {x : Int32} {dflt : Int} {offs : Array Int} {len : Nat} {tgt : Nat} (hd : decode M.2.1 pc = .ok (.tableswitch dflt 0 14 offs, len)) (hx : ∀ j, j < 15 → ¬ x = qi j) (ht : (pc : Int) + dflt = (tgt : Int)) (kk : QW d M tgt ls st h P) : QW d M pc ls (.int x :: st) h P := by
  intro l s0 a0 A n0 p e R s m args below meth c H locs I S
  have e1 : x.toInt < 0 ∨ 14 < x.toInt := by
    by_cases h1 : x.toInt < 0
    · exact Or.inl h1
    · by_cases h2 : 14 < x.toInt
      · exact Or.inr h2
      · refine absurd ?_ (hx x.toInt.toNat (by omega))
        apply Int32.toInt.inj
        rw [show (qi x.toInt.toNat).toInt = ((x.toInt.toNat : Nat) : Int) from Int32.toInt_ofNat_of_lt (by omega)]
        omega
  exact lv_tableOut I.1 I.2.1 hd e1 ht (kk I S)
/-- an exception that a first or a second handler takes -/
theorem MW.catch1 {st1 en hp ci ct N : Nat} {cn : String} {T0 : u_T} {post : List (Nat × Nat × Nat × Nat)} (hX : X.length = 13) (ht : M.2.2.2.2 = (st1, en, hp, ci) :: post) (h1 : st1 ≤ pc) (h2 : pc < en) (h0 : ci ≠ 0) (hl : Cond.classLink M.1.cls ci cn ∈ lw_tbl) (hq : classes[ct]? = some (cn, T0, N)) (kk : QW d M hp ls [.ref (225 + e.length)] (hpo X mem sw o (e ++ [ct])) P) : QT d M pc ls (225 + e.length) (hpo X mem sw o (e ++ [ct])) P :=
  QT.catch (pre := []) ht (Or.inl rfl) h1 h2 h0 hl (hpo_exc hX ct) hq kk
theorem MW.catch2 {st1 en hp ci ct N s1 e1 p1 c1 : Nat} {cn n1 : String} {T0 : u_T} {post : List (Nat × Nat × Nat × Nat)} (hX : X.length = 13) (ht : M.2.2.2.2 = (s1, e1, p1, c1) :: (st1, en, hp, ci) :: post) (hc1 : c1 ≠ 0) (hl1 : Cond.classLink M.1.cls c1 n1 ∈ lw_tbl) (hno : Cond.not (.castable cn n1) ∈ flatC qGv) (h1 : st1 ≤ pc) (h2 : pc < en) (h0 : ci ≠ 0) (hl : Cond.classLink M.1.cls ci cn ∈ lw_tbl) (hq : classes[ct]? = some (cn, T0, N)) (kk : QW d M hp ls [.ref (225 + e.length)] (hpo X mem sw o (e ++ [ct])) P) : QT d M pc ls (225 + e.length) (hpo X mem sw o (e ++ [ct])) P :=
  QT.catch (pre := [(s1, e1, p1, c1)]) ht (Or.inr ⟨s1, e1, p1, c1, n1, rfl, hc1, hl1, hno⟩) h1 h2 h0 hl (hpo_exc hX ct) hq kk
theorem qcl_t {pc' a : Nat} {rest : List Value} {h : qH} (k : QT (d + 1) M pc ls a h P) : qcl d M pc pc' ls rest P (.inr a, h) := ⟨fun w hw => (by cases hw), fun b hb => (by cases hb; exact k)⟩
end LRW
