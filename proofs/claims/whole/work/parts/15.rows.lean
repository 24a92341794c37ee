def sh (i : Nat) : Option (Nat × List (Option Nat)) := if 13 ≤ i then shp[i - 13]? else none
theorem rep_get {n k : Nat} (h : k < n) : (List.replicate n (none : Option Nat))[k]? = some none := by simp [h]
section MW
variable {d : Nat} {M : qM} {pc : Nat} {ls : List Slot} {st : List Value} {P : qE → Prop} {X : qH} {mem : Nat → Nat → Int32} {sw : Bool} {o : Int64} {e : List Nat} {i k ct : Nat} {sl : List (Option Nat)}
theorem sh_get (hX : X.length = 13) {s : Nat × List (Option Nat)} (hs : sh i = some s) : (hpo X mem sw o e)[i]? = some (s.1, slv (mem i) sw 0 s.2) := by
  unfold sh at hs
  split at hs
  · have h1 := hpo_get (mem := mem) (sw := sw) (o := o) (e := e) hX hs
    rwa [show 13 + (i - 13) = i by omega] at h1
  · cases hs
theorem sh_set (hX : X.length = 13) {s : Nat × List (Option Nat)} (hs : sh i = some s) (hk : s.2[k]? = some none) (v : Int32) : (hpo X mem sw o e).set i (s.1, (slv (mem i) sw 0 s.2).set k (.int v)) = hpo X (mup mem i k v) sw o e := by
  unfold sh at hs
  split at hs
  · have h1 := hpo_set (mem := mem) (sw := sw) (o := o) (e := e) hX hs hk v
    rwa [show 13 + (i - 13) = i by omega] at h1
  · cases hs
theorem slv_i (hk : sl[k]? = some none) : (slv (mem i) sw 0 sl)[k]? = some (.int (mem i k)) := by
  have h1 := slv_int (mem i) sw sl 0 k hk
  rwa [Nat.zero_add] at h1
theorem MW.geti {idx N : Nat} {t : FieldType} {fin : Bool} (hX : X.length = 13) (hd : decode M.2.1 pc = .ok (.getfield idx, 3)) (hf : qfl M.1.cls idx ct k N t fin) (hs : sh i = some (ct, sl)) (hk : sl[k]? = some none) (kk : QW d M (pc + 3) ls (.int (mem i k) :: st) (hpo X mem sw o e) P) : QW d M pc ls (.ref i :: st) (hpo X mem sw o e) P :=
  QW.getf hd hf (sh_get hX hs) (slv_i hk) kk
theorem MW.getr {idx N r r' : Nat} {t : FieldType} {fin : Bool} (hX : X.length = 13) (hd : decode M.2.1 pc = .ok (.getfield idx, 3)) (hf : qfl M.1.cls idx ct k N t fin) (hs : sh i = some (ct, sl)) (hk : sl[k]? = some (some r)) (hr : swp sw r = r') (kk : QW d M (pc + 3) ls (.ref r' :: st) (hpo X mem sw o e) P) : QW d M pc ls (.ref i :: st) (hpo X mem sw o e) P := by
  subst hr
  exact QW.getf hd hf (sh_get hX hs) (slv_ref (mem i) sw sl 0 k hk) kk
theorem MW.puti {idx N : Nat} {v : Int32} (hX : X.length = 13) (hd : decode M.2.1 pc = .ok (.putfield idx, 3)) (hf : qfl M.1.cls idx ct k N .int false) (hs : sh i = some (ct, sl)) (hl : sl.length = N) (hk : sl[k]? = some none) (kk : QW d M (pc + 3) ls st (hpo X (mup mem i k v) sw o e) P) : QW d M pc ls (.int v :: .ref i :: st) (hpo X mem sw o e) P := by
  refine QW.putf hd hf (sh_get hX hs) (by rw [slv_len]; exact hl) (fun _ => rfl) (fun _ => rfl) ?_
  rw [sh_set hX hs hk]
  exact kk
theorem MW.putz {idx N : Nat} {v : Int32} (hX : X.length = 13) (hd : decode M.2.1 pc = .ok (.putfield idx, 3)) (hf : qfl M.1.cls idx ct k N .boolean false) (hs : sh i = some (ct, sl)) (hl : sl.length = N) (hk : sl[k]? = some none) (hv : narrow .boolean (.int v) = .int v) (hfit : fits .boolean (.int v) = true) (kk : QW d M (pc + 3) ls st (hpo X (mup mem i k v) sw o e) P) : QW d M pc ls (.int v :: .ref i :: st) (hpo X mem sw o e) P := by
  refine QW.putf hd hf (sh_get hX hs) (by rw [slv_len]; exact hl) (fun _ => hv) (fun _ => hfit) ?_
  rw [sh_set hX hs hk]
  exact kk
theorem MW.iald {x : Int32} (hX : X.length = 13) (hd : decode M.2.1 pc = .ok (.iaload, 1)) (hs : sh i = some (64, sl)) (h0 : ¬ x < 0) (hk : sl[x.toNatClampNeg]? = some none) (kk : QW d M (pc + 1) ls (.int (mem i x.toNatClampNeg) :: st) (hpo X mem sw o e) P) : QW d M pc ls (.int x :: .ref i :: st) (hpo X mem sw o e) P :=
  QW.iald hd (sh_get hX hs) rfl (Nat.le_of_ble_eq_true rfl) h0 (slv_i hk) kk
theorem MW.zald {x : Int32} (hX : X.length = 13) (hd : decode M.2.1 pc = .ok (.baload, 1)) (hs : sh i = some (65, sl)) (h0 : ¬ x < 0) (hk : sl[x.toNatClampNeg]? = some none) (kk : QW d M (pc + 1) ls (.int (mem i x.toNatClampNeg) :: st) (hpo X mem sw o e) P) : QW d M pc ls (.int x :: .ref i :: st) (hpo X mem sw o e) P :=
  QW.zald hd (sh_get hX hs) rfl (Nat.le_of_ble_eq_true rfl) h0 (slv_i hk) kk
theorem MW.cald {x : Int32} (hX : X.length = 13) (hd : decode M.2.1 pc = .ok (.caload, 1)) (hs : sh i = some (66, sl)) (h0 : ¬ x < 0) (hk : sl[x.toNatClampNeg]? = some none) (kk : QW d M (pc + 1) ls (.int (mem i x.toNatClampNeg) :: st) (hpo X mem sw o e) P) : QW d M pc ls (.int x :: .ref i :: st) (hpo X mem sw o e) P :=
  QW.cald hd (sh_get hX hs) rfl (Nat.le_of_ble_eq_true rfl) h0 (slv_i hk) kk
theorem MW.aald {x : Int32} {cn : String} {r r' : Nat} (hX : X.length = 13) (hd : decode M.2.1 pc = .ok (.aaload, 1)) (hs : sh i = some (ct, sl)) (ht : qar ct = some (.object cn)) (h64 : 64 ≤ ct) (h0 : ¬ x < 0) (hk : sl[x.toNatClampNeg]? = some (some r)) (hr : swp sw r = r') (kk : QW d M (pc + 1) ls (.ref r' :: st) (hpo X mem sw o e) P) : QW d M pc ls (.int x :: .ref i :: st) (hpo X mem sw o e) P := by
  subst hr
  exact QW.aald hd (sh_get hX hs) ht h64 h0 (slv_ref (mem i) sw sl 0 _ hk) kk
theorem MW.alen {v : Int32} {ty : FieldType} (hX : X.length = 13) (hd : decode M.2.1 pc = .ok (.arraylength, 1)) (hs : sh i = some (ct, sl)) (ht : qar ct = some ty) (h64 : 64 ≤ ct) (hv : Int32.ofNat sl.length = v) (kk : QW d M (pc + 1) ls (.int v :: st) (hpo X mem sw o e) P) : QW d M pc ls (.ref i :: st) (hpo X mem sw o e) P :=
  QW.alen hd (sh_get hX hs) ht h64 (by rw [slv_len]; exact hv) kk
theorem MW.iast {x v : Int32} (hX : X.length = 13) (hd : decode M.2.1 pc = .ok (.iastore, 1)) (hs : sh i = some (64, sl)) (h0 : ¬ x < 0) (hk : sl[x.toNatClampNeg]? = some none) (kk : QW d M (pc + 1) ls st (hpo X (mup mem i x.toNatClampNeg v) sw o e) P) : QW d M pc ls (.int v :: .int x :: .ref i :: st) (hpo X mem sw o e) P := by
  refine QW.iast hd (sh_get hX hs) rfl (Nat.le_of_ble_eq_true rfl) rfl h0 (slv_i hk) ?_
  rw [sh_set (s := (64, sl)) hX hs hk]
  exact kk
theorem MW.zast {x v : Int32} (hX : X.length = 13) (hd : decode M.2.1 pc = .ok (.bastore, 1)) (hs : sh i = some (65, sl)) (h0 : ¬ x < 0) (hk : sl[x.toNatClampNeg]? = some none) (hv : narrow .boolean (.int v) = .int v) (kk : QW d M (pc + 1) ls st (hpo X (mup mem i x.toNatClampNeg v) sw o e) P) : QW d M pc ls (.int v :: .int x :: .ref i :: st) (hpo X mem sw o e) P := by
  refine QW.zast hd (sh_get hX hs) rfl (Nat.le_of_ble_eq_true rfl) rfl h0 (slv_i hk) hv ?_
  rw [sh_set (s := (65, sl)) hX hs hk]
  exact kk
theorem MW.cast {x v : Int32} (hX : X.length = 13) (hd : decode M.2.1 pc = .ok (.castore, 1)) (hs : sh i = some (66, sl)) (h0 : ¬ x < 0) (hk : sl[x.toNatClampNeg]? = some none) (hv : narrow .char (.int v) = .int v) (kk : QW d M (pc + 1) ls st (hpo X (mup mem i x.toNatClampNeg v) sw o e) P) : QW d M pc ls (.int v :: .int x :: .ref i :: st) (hpo X mem sw o e) P := by
  refine QW.cast hd (sh_get hX hs) rfl (Nat.le_of_ble_eq_true rfl) rfl h0 (slv_i hk) hv ?_
  rw [sh_set (s := (66, sl)) hX hs hk]
  exact kk
theorem hpo_new {X : qH} {mem : Nat → Nat → Int32} {sw : Bool} {o : Int64} {e : List Nat} {t : Nat} : hpo X mem sw o e ++ [(t, [])] = hpo X mem sw o (e ++ [t]) := by
  unfold hpo
  simp
theorem MW.thr {ia ib ic : Nat} {cls : String} {names : List String} (hX : X.length = 13) (hx : qthr M.1.cls ia ib ic ct cls names) (hd0 : decode M.2.1 pc = .ok (.new ia, 3)) (hd3 : decode M.2.1 (pc + 3) = .ok (.dup, 1)) (hd4 : decode M.2.1 (pc + 4) = .ok (.ldc ib, 2)) (hd6 : decode M.2.1 (pc + 6) = .ok (.invokespecial ic, 3)) (hd9 : decode M.2.1 (pc + 9) = .ok (.athrow, 1))
    (hno : M.2.2.2.2 = []) (hc : e.length < 10000) (hls : ls.length = M.2.2.1) (hp : P (.inr (225 + e.length), hpo X mem sw o (e ++ [ct]))) : QW d M pc ls [] (hpo X mem sw o e) P := by
  have hl : (hpo X mem sw o e).length = 225 + e.length := hpo_len hX
  refine QW.thr hx hd0 hd3 hd4 hd6 hd9 hno (by rw [hl]; have : qCap = 20000 := rfl; omega) hls ?_
  rw [hl, hpo_new]
  exact hp
theorem MW.callV {M2 : qM} {idx b : Nat} {as rest : List Value} {q : vw_C} {P1 : qE → Prop} (hX : X.length = 13) (hd : decode M.2.1 pc = .ok (.invokevirtual idx, 3)) (hm : qme M2) (hl : qlk M.1.cls idx M2) (hi : Cond.instanceMethod M2.1 ∈ lw_tbl) (hse : Cond.selects M2.1.cls M2.1 M2.1 ∈ lw_tbl) (hn : qnp M2 = some as.length) (hst : st = as.reverse ++ .ref b :: rest) (hs : sh b = some (ct, sl)) (hq : classes[ct]? = some q) (hqc : q.1 = M2.1.cls) (hls : ls.length = M.2.2.1) (hw : (rest.map fun v => v.category).sum ≤ 20)
    (hC : QW d M2 0 (qen M2.2.2.1 (.ref b :: as)) [] (hpo X mem sw o e) P1) (hr : ∀ v h', P1 (.inl v, h') → QW (d + 1) M (pc + 3) ls (v.toList ++ rest) h' P) (ht : ∀ a h', P1 (.inr a, h') → QT (d + 1) M pc ls a h' P) : QW (d + 1) M pc ls st (hpo X mem sw o e) P :=
  QW.callV hd hm hl hi hse hn hst (sh_get hX hs) hq hqc hls hw hC hr ht
end MW
