abbrev mLa_law : qM := (x, code, maxLocals, ret, [])
theorem q_ac_byte : Cond.arrayClass .byte ∈ lw_tbl := q_tw 485 (by decide +kernel)
theorem q_cls : ∀ (t : Nat) (r : vw_C), classes[t]? = some r → (∃ n, Cond.instantiable r.1 n ∈ lw_tbl) ∧ ∀ w ∈ u_ws r.1 r.2.1 r.2.2, w ∈ lw_tbl
  | 0, _, h => by cases h; exact ⟨⟨13, q_tw 29 (by decide +kernel)⟩, zcBp.2.2⟩
  | 1, _, h => by cases h; exact ⟨⟨4, q_tw 230 (by decide +kernel)⟩, zcBag.2.2⟩
  | 2, _, h => by cases h; exact ⟨⟨10, q_tw 139 (by decide +kernel)⟩, zcBl.2.2⟩
  | 3, _, h => by cases h; exact ⟨⟨2, q_tw 37 (by decide +kernel)⟩, zcCat.2.2⟩
  | 4, _, h => by cases h; exact ⟨⟨15, q_tw 253 (by decide +kernel)⟩, zcNf.2.2⟩
  | 5, _, h => by cases h; exact ⟨⟨2, q_tw 318 (by decide +kernel)⟩, zcPg.2.2⟩
  | 6, _, h => by cases h; exact ⟨⟨4, q_tw 211 (by decide +kernel)⟩, zcPlan.2.2⟩
  | 7, _, h => by cases h; exact ⟨⟨3, q_tw 132 (by decide +kernel)⟩, zcQu.2.2⟩
  | 8, _, h => by cases h; exact ⟨⟨1, q_tw 99 (by decide +kernel)⟩, zcRd.2.2⟩
  | 9, _, h => by cases h; exact ⟨⟨4, q_tw 44 (by decide +kernel)⟩, zcTab.2.2⟩
  | 10, _, h => by cases h; exact ⟨⟨2, q_tw 83 (by decide +kernel)⟩, zcTxt.2.2⟩
  | 11, _, h => by cases h; exact ⟨⟨5, q_tw 105 (by decide +kernel)⟩, zcTok.2.2⟩
  | 12, _, h => by cases h; exact ⟨⟨44, q_tw 1061 (by decide +kernel)⟩, zcMo.2.2⟩
  | 13, _, h => by cases h; exact ⟨⟨13, q_tw 29 (by decide +kernel)⟩, fun w hw => by cases hw⟩
  | 14, _, h => by cases h; exact ⟨⟨13, q_tw 29 (by decide +kernel)⟩, fun w hw => by cases hw⟩
  | 15, _, h => by cases h; exact ⟨⟨13, q_tw 29 (by decide +kernel)⟩, fun w hw => by cases hw⟩
  | 16, _, h => by cases h; exact ⟨⟨13, q_tw 29 (by decide +kernel)⟩, fun w hw => by cases hw⟩
  | 17, _, h => by cases h; exact ⟨⟨13, q_tw 29 (by decide +kernel)⟩, fun w hw => by cases hw⟩
  | 18, _, h => by cases h; exact ⟨⟨13, q_tw 29 (by decide +kernel)⟩, fun w hw => by cases hw⟩
  | 19, _, h => by cases h; exact ⟨⟨13, q_tw 29 (by decide +kernel)⟩, fun w hw => by cases hw⟩
  | 20, _, h => by cases h; exact ⟨⟨6, q_tw 418 (by decide +kernel)⟩, fun w hw => by cases hw⟩
  | 21, _, h => by cases h; exact ⟨⟨6, q_tw 487 (by decide +kernel)⟩, fun w hw => by cases hw⟩
  | 22, _, h => by cases h; exact ⟨⟨6, q_tw 892 (by decide +kernel)⟩, fun w hw => by cases hw⟩
  | 23, _, h => by cases h; exact ⟨⟨6, q_tw 920 (by decide +kernel)⟩, fun w hw => by cases hw⟩
  | t + 24, _, h => by cases h
def R_law : String := "BagPlannerLaw"
def lw_P (b : Addr) (xs : List Int32) (args : Array Value) (s : State) : Prop := args = #[.ref b] ∧ s.IntsAt b xs ∧ xs.length ≤ 2560 ∧ (Jvm.Cond.and given_1 narrow_1).before args s = true
def lw_Q (_ : Array Value) (s : State) (o : Outcome) (t : State) : Prop := o = .returned (some (.int 1)) ∧ Framed s o t [] 601024 7293034
def lw_Z (below : List Frame) (a : Array Value) (s : State) : State → Prop := fun t => ∃ o, t.status = .running ∧ Ended t below o ∧ lw_Q a s o t
theorem q_arr0 {s : State} {a : Array Value} (hts : ∀ w ∈ lw_tbl, w.before a s = true) {t : Nat} {ty : FieldType} (h : qar t = some ty) (h80 : t ≠ 80) : ∃ cA : ClassId, (∃ (kA : Class) (comp : ClassId), s.vm.classes[cA]? = some kA ∧ kA.kind = .array comp ty) ∧ va_RA s cA ty := by
  have prim : ∀ ty : FieldType, Cond.arrayClass ty ∈ lw_tbl → (∀ C, ty ≠ .object C) → ∃ cA : ClassId, (∃ (kA : Class) (comp : ClassId), s.vm.classes[cA]? = some kA ∧ kA.kind = .array comp ty) ∧ va_RA s cA ty := by
    intro ty hw hne
    obtain ⟨c, k, comp, f1, f2, f3⟩ := Cond.arrayClass_spec (hts _ hw)
    refine ⟨c, ⟨k, comp, f2, f3⟩, ?_⟩
    cases ty <;> first | exact f1 | exact absurd rfl (hne _)
  have obj : ∀ C : String, Cond.arrayOver (.object C) ∈ lw_tbl → ∃ cA : ClassId, (∃ (kA : Class) (comp : ClassId), s.vm.classes[cA]? = some kA ∧ kA.kind = .array comp (.object C)) ∧ va_RA s cA (.object C) := by
    intro C hw
    obtain ⟨comp, c, k, h1, h2, h3, h4, h5⟩ := Cond.arrayOver_spec (hts _ hw)
    exact ⟨c, ⟨k, comp, h3, h4⟩, k, comp, h3, h4, h1, h5⟩
  unfold qar at h
  split at h
  · cases h; exact prim _ q_ac_int (fun C e => by cases e)
  · cases h; exact prim _ q_ac_boolean (fun C e => by cases e)
  · cases h; exact prim _ q_ac_char (fun C e => by cases e)
  · cases h; exact prim _ q_ac_long (fun C e => by cases e)
  · cases h; exact obj _ q_ao_Table
  · cases h; exact obj _ q_ao_Question
  · cases h; exact obj _ q_ao_Block
  · exact absurd rfl h80
  · cases h; exact prim _ q_ac_byte (fun C e => by cases e)
  · cases h
def q_ad (b n f : Nat) (ak av : Nat → Nat) (i : Nat) : Nat := if i < 13 then b else if i ≤ 25000 then n + (i - 13) else if i = 30000 then f else if i < 30007 then ak (i - 30001) else av (i - 30007)
theorem q_sx : ∀ i : Nat, i < 6 → Cond.exactly (qsT i) "java/lang/String" ∈ flatC qGv ∧ Cond.eq (.field (qsT i) "java/lang/String" "coder" "B") (.int 0) ∈ flatC qGv ∧ Cond.arrayOf (.field (qsT i) "java/lang/String" "value" "[B") .byte ∈ flatC qGv ∧ Cond.eq (.length (.field (qsT i) "java/lang/String" "value" "[B")) (.int (Int32.ofNat (qsn.getD i 0))) ∈ flatC qGv := by decide +kernel
theorem q_se : ∀ i : Nat, i < 6 → ∀ j : Nat, j < qsn.getD i 0 → Cond.eq (.elem (.field (qsT i) "java/lang/String" "value" "[B") (.int (Int32.ofNat j))) (.int ((qsw.getD i []).getD j 0)) ∈ flatC qGv := by decide +kernel
theorem q_sd : ∀ i : Nat, i < 6 → ∀ j : Nat, j < 6 → i ≠ j → (Cond.not (Cond.eq (qsT i) (qsT j)) ∈ flatC qGv ∨ Cond.not (Cond.eq (qsT j) (qsT i)) ∈ flatC qGv) := by decide +kernel
theorem q_sf : Cond.isRef (.static "jdk/internal/util/Preconditions" "SIOOBE_FORMATTER" "Ljava/util/function/BiFunction;") ∈ flatC qGv := by decide +kernel
theorem q_sn : ∀ i : Nat, i < 6 → qsn.getD i 0 < 2 ^ 31 := by decide +kernel
theorem q_strs {s : State} {a : Array Value} (h : qGv.before a s = true) : ∃ (f : Nat) (ak av : Nat → Nat), vk_S 6 qsn qsw ak av (fun q => s.heap.size ≤ q) s s.heap ∧ (∀ i : Nat, i < 6 → (qsT i).eval a s none [] s = some (.ref (ak i))) ∧
    ((Term.static "jdk/internal/util/Preconditions" "SIOOBE_FORMATTER" "Ljava/util/function/BiFunction;").eval a s none [] s = some .null ∨ (Term.static "jdk/internal/util/Preconditions" "SIOOBE_FORMATTER" "Ljava/util/function/BiFunction;").eval a s none [] s = some (.ref f)) := by
  have fl := flat_of_before _ h
  obtain ⟨ak, av, h1, h2⟩ := vk_Sof (args := a) (s := s) (N := 6) (tm := qsT) (len := qsn) (byt := qsw) (A := fun q => s.heap.size ≤ q) q_sn (fun i hi => fl _ (q_sx i hi).1) (fun i hi => fl _ (q_sx i hi).2.1) (fun i hi => fl _ (q_sx i hi).2.2.1) (fun i hi => fl _ (q_sx i hi).2.2.2) (fun i hi j hj => fl _ (q_se i hi j hj))
    (fun i j hi hj hij => (q_sd i hi j hj hij).imp (fl _) (fl _)) (fun q hq => Nat.not_le.mpr hq)
  have hr := fl _ q_sf
  cases hv : (Term.static "jdk/internal/util/Preconditions" "SIOOBE_FORMATTER" "Ljava/util/function/BiFunction;").eval a s none [] s with
  | none => simp [Cond.before, Cond.holds, Cond.value, hv] at hr
  | some w =>
    simp only [Cond.before, Cond.holds, Cond.value, hv] at hr
    cases w with
    | null => exact ⟨0, ak, av, h1, h2, Or.inl rfl⟩
    | ref t => exact ⟨t, ak, av, h1, h2, Or.inr rfl⟩
    | _ => simp at hr
theorem q_start {p : Program} {l : Launch} {e : Env} {s : State} {m : MethodId} {below : List Frame} {meth : Method} {c : Code} {b : Nat} {xs : List Int32} {scr : Cell} (hfl : l.stackTraces = false) (h1 : p.tables.exec = Jvm.exec) (h2 : c.code = code) (h3 : meth.sig.returnType = ret) (h4 : c.maxLocals = 7) (h5 : s.vm.findClass "BagPlannerLaw" = some m.cls) (h6 : ∀ w ∈ lw_tbl, w.before #[Value.ref b] s = true) (h7 : s.heap[b]? = some scr) (h8 : s.isArrayOf scr .int) (h9 : scr.vm ≠ .unknown) (h10 : scr.slots.toList = xs.map Value.int)
    (h11 : meth.locks = false) (h12 : (Jvm.Cond.and given_1 narrow_1).before #[Value.ref b] s = true) (h13 : c.exceptionTable.toList = []) (h14 : meth.name = "law")
    (hQ : QW 40 mLa_law 0 (qen 7 [.ref 0]) [] (List.replicate 13 (80, xs.map Value.int)) (fun r => r.1 = .inl (some (.int 1)))) : W p l e room_1 s m #[Value.ref b] below meth c s.heap [] 0 0 (lw_Z below #[Value.ref b] s) (entryFrame m ([Value.ref b] : List Value).toArray 7) := by
  have hbl : b < s.heap.size := (Array.getElem?_eq_some_iff.mp h7).1
  have hD : ∀ t : Nat, ∃ q : ClassId × (Nat → Nat), (∀ r, classes[t]? = some r → u_Kn s r.1 r.2.1 r.2.2 q.1 q.2) ∧ (∀ ty, qar t = some ty → (∃ (kA : Class) (comp : ClassId), s.vm.classes[q.1]? = some kA ∧ kA.kind = .array comp ty) ∧ (t < 80 → va_RA s q.1 ty)) ∧ (t = 80 → q.1 = scr.cls) := by
    intro t
    by_cases ht : t < 24
    · have hq : qar t = none := by
        unfold qar
        split <;> first | omega | rfl
      obtain ⟨r, hr⟩ : ∃ r, classes[t]? = some r := ⟨_, List.getElem?_eq_getElem (show t < classes.length from ht)⟩
      obtain ⟨⟨n, g1⟩, g2⟩ := q_cls t r hr
      obtain ⟨cC, iS, hk⟩ := u_known (ws := lw_tbl) h6 g2 (h6 _ g1)
      exact ⟨(cC, iS), fun r' hr' => (by cases hr.symm.trans hr'; exact hk), fun ty hty => (by rw [hq] at hty; cases hty), fun h => by omega⟩
    · have hcl : classes[t]? = none := List.getElem?_eq_none (show classes.length ≤ t from Nat.le_of_not_lt ht)
      by_cases h80 : t = 80
      · subst h80
        obtain ⟨-, kA, hkA, comp, hkind⟩ := h8
        exact ⟨(scr.cls, fun _ => 0), fun r hr => (by rw [hcl] at hr; cases hr), fun ty hty => (by cases hty; exact ⟨⟨kA, comp, hkA, hkind⟩, fun h => absurd h (by decide)⟩), fun _ => rfl⟩
      · cases hq : qar t with
        | none => exact ⟨(0, fun _ => 0), fun r hr => (by rw [hcl] at hr; cases hr), fun ty hty => (by cases hty), fun h => absurd h h80⟩
        | some ty =>
          obtain ⟨cA, g1, g2⟩ := q_arr0 h6 hq h80
          exact ⟨(cA, fun _ => 0), fun r hr => (by rw [hcl] at hr; cases hr), fun ty' hty => (by cases hty; exact ⟨g1, fun _ => g2⟩), fun h => absurd h h80⟩
  obtain ⟨dd, hdd⟩ := Classical.axiomOfChoice hD
  obtain ⟨sf, ak, av, hs1, hs2, hs3⟩ := q_strs (show qGv.before #[Value.ref b] s = true from h12)
  let A : qA := (q_ad b s.heap.size sf ak av, (fun t => (dd t).1, fun t => (dd t).2), 13)
  have hA : qad A := by
    refine ⟨fun i hi hi2 => ?_, fun i j hij hj hj2 => ?_⟩
    · have hi : 13 ≤ i := hi
      show q_ad b s.heap.size sf ak av (i + 1) = q_ad b s.heap.size sf ak av i + 1
      unfold q_ad
      rw [if_neg (by omega), if_pos (by omega), if_neg (by omega), if_pos (by omega)]
      omega
    · have hj : 13 ≤ j := hj
      show q_ad b s.heap.size sf ak av i < q_ad b s.heap.size sf ak av j
      unfold q_ad
      rw [if_neg (show ¬ j < 13 by omega), if_pos hj2]
      by_cases h13 : i < 13
      · rw [if_pos h13]; omega
      · rw [if_neg h13, if_pos (by omega)]; omega
  have hStr : qStr s #[Value.ref b] A := by
    have e1 : ∀ i, i < 6 → A.1 (30001 + i) = ak i := by
      intro i hi
      show q_ad b s.heap.size sf ak av (30001 + i) = ak i
      unfold q_ad
      rw [if_neg (by omega), if_neg (by omega), if_neg (by omega), if_pos (by omega), Nat.add_sub_cancel_left]
    have e2 : ∀ i, A.1 (30007 + i) = av i := by
      intro i
      show q_ad b s.heap.size sf ak av (30007 + i) = av i
      unfold q_ad
      rw [if_neg (by omega), if_neg (by omega), if_neg (by omega), if_neg (by omega), Nat.add_sub_cancel_left]
    have e3 : A.1 30000 = sf := rfl
    refine ⟨⟨fun i hi => ?_, fun i j hi hj e => ?_⟩, fun i hi => ?_, ?_⟩
    · simp only [e1 i hi, e2 i]
      exact hs1.1 i hi
    · simp only [e1 i hi, e1 j hj] at e
      exact hs1.2 i j hi hj e
    · rw [e1 i hi]
      exact hs2 i hi
    · rw [e3]
      exact hs3
  have hns : scr.vm.isStatics = false := by
    have h := h8.1
    cases hv : scr.vm <;> first | rfl | exact absurd hv (h _)
  have hsl : scr.slots = ((xs.map Value.int).map (qv A.1)).toArray := by
    have e1 : (xs.map Value.int).map (qv A.1) = xs.map Value.int := by
      rw [List.map_map]
      rfl
    rw [e1, ← h10]
  have hr : qhr A (List.replicate 13 (80, xs.map Value.int)) s.heap := by
    refine ⟨rfl, Nat.le_refl _, fun i q hq => ?_⟩
    rw [List.getElem?_replicate] at hq
    split at hq
    · rename_i h13
      cases hq
      exact ⟨⟨scr, by show s.heap[q_ad b s.heap.size sf ak av i]? = some scr; unfold q_ad; rw [if_pos h13]; exact h7, ((hdd 80).2.2 rfl).symm, h9, hns, fun h => absurd (show qown 80 = true from h) (by decide), fun h => absurd (show 80 < 64 from h) (by decide), fun _ => hsl⟩, fun h => absurd (show qown 80 = true from h) (by decide)⟩
    · cases hq
  have hG : qGl l s #[Value.ref b] A := ⟨h6, hfl, hA, rfl, fun t r h => (hdd t).1 r h, fun t ty h => ((hdd t).2.1 ty h).1, fun t ty h h80 => ((hdd t).2.1 ty h).2 h80, h12, hStr⟩
  have I : qIn l s #[Value.ref b] A mLa_law 40 13 p room_1 s m meth c := ⟨h1, h2, h4, h3, h11, h14, h5, by rw [h13]; rfl, State.WarmedH.refl s, fun q _ => rfl, fun q cell hq hc => absurd (Array.getElem?_eq_some_iff.mp hc).1 (Nat.not_lt.mpr hq), rfl, Nat.le_refl _, by decide, by decide, by decide, by decide, hG⟩
  have S : qSt A s 13 (List.replicate 13 (80, xs.map Value.int)) s.heap [] := ⟨hr, fun q _ => rfl, (fun q hq => by cases hq), Nat.le_refl _, show 13 ≤ qCap by decide⟩
  have K := hQ (e := e) (args := #[Value.ref b]) (below := below) I S
  intro T hT X
  have en : entryFrame m ([Value.ref b] : List Value).toArray 7 = F0 m 0 (qls A.1 (qen 7 [.ref 0])) (qvs A.1 []) := qen_entry A.1 m 7 [.ref 0]
  rw [en]
  obtain ⟨t, a1, r, b1, b2, b3, b4, L, b5, b6⟩ := K T hT X
  rw [b1] at b3
  refine ⟨t, a1, _, b2, b3, rfl, ⟨_, rfl⟩, b4, b5.weaken (fun y hy hlt => ?_) ?_ ?_⟩
  · exact absurd hlt (Nat.not_lt.mpr (b6.2.2.1 y hy))
  · have := b6.2.2.2.2
    have e1 : qCap = 20000 := rfl
    omega
  · have := b6.2.2.2.2
    have e1 : qCap = 20000 := rfl
    omega
