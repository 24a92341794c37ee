def inx (x : Int32) (n : Nat) : Prop := ¬ x < 0 ∧ x.toNatClampNeg < n
def qfr (w : Slot) : Prop := w = .unset ∨ (∃ x, w = .val (.int x)) ∨ (∃ r, w = .val (.ref r))
theorem swp_ne {sw : Bool} {r : Nat} (h1 : r ≠ 161) (h2 : r ≠ 164) : swp sw r = r := by cases sw <;> simp [swp, h1, h2]
def kTab (t : Nat) : Prop := sh t = some (9, [none, none, some (t + 1), some (t + 2)]) ∧ sh (t + 1) = some (65, List.replicate 3 none) ∧ sh (t + 2) = some (64, List.replicate 24 none) ∧ (∀ sw, swp sw (t + 1) = t + 1) ∧ (∀ sw, swp sw (t + 2) = t + 2)
theorem kTab_0 {t : Nat} (h : kTab t) : sh t = some (9, [none, none, some (t + 1), some (t + 2)]) := h.1
theorem kTab_1 {t : Nat} (h : kTab t) : sh (t + 1) = some (65, List.replicate 3 none) := h.2.1
theorem kTab_2 {t : Nat} (h : kTab t) : sh (t + 2) = some (64, List.replicate 24 none) := h.2.2.1
theorem kTab_s1 {t : Nat} (h : kTab t) : (∀ sw, swp sw (t + 1) = t + 1) := h.2.2.2.1
theorem kTab_s2 {t : Nat} (h : kTab t) : (∀ sw, swp sw (t + 2) = t + 2) := h.2.2.2.2
def kBl (t : Nat) : Prop := sh t = some (2, [none, none, none, none, some (t + 1), some (t + 2), some (t + 3), some (t + 4), some (t + 5), some (t + 6)]) ∧ sh (t + 1) = some (64, List.replicate 4 none) ∧ sh (t + 2) = some (64, List.replicate 4 none) ∧ sh (t + 3) = some (65, List.replicate 6 none) ∧ sh (t + 4) = some (64, List.replicate 15 none) ∧ sh (t + 5) = some (64, List.replicate 15 none) ∧ sh (t + 6) = some (64, List.replicate 15 none) ∧ (∀ sw, swp sw (t + 1) = t + 1) ∧ (∀ sw, swp sw (t + 2) = t + 2) ∧ (∀ sw, swp sw (t + 3) = t + 3) ∧ (∀ sw, swp sw (t + 4) = t + 4) ∧ (∀ sw, swp sw (t + 5) = t + 5) ∧ (∀ sw, swp sw (t + 6) = t + 6)
theorem kBl_0 {t : Nat} (h : kBl t) : sh t = some (2, [none, none, none, none, some (t + 1), some (t + 2), some (t + 3), some (t + 4), some (t + 5), some (t + 6)]) := h.1
theorem kBl_1 {t : Nat} (h : kBl t) : sh (t + 1) = some (64, List.replicate 4 none) := h.2.1
theorem kBl_2 {t : Nat} (h : kBl t) : sh (t + 2) = some (64, List.replicate 4 none) := h.2.2.1
theorem kBl_3 {t : Nat} (h : kBl t) : sh (t + 3) = some (65, List.replicate 6 none) := h.2.2.2.1
theorem kBl_4 {t : Nat} (h : kBl t) : sh (t + 4) = some (64, List.replicate 15 none) := h.2.2.2.2.1
theorem kBl_5 {t : Nat} (h : kBl t) : sh (t + 5) = some (64, List.replicate 15 none) := h.2.2.2.2.2.1
theorem kBl_6 {t : Nat} (h : kBl t) : sh (t + 6) = some (64, List.replicate 15 none) := h.2.2.2.2.2.2.1
theorem kBl_s1 {t : Nat} (h : kBl t) : (∀ sw, swp sw (t + 1) = t + 1) := h.2.2.2.2.2.2.2.1
theorem kBl_s2 {t : Nat} (h : kBl t) : (∀ sw, swp sw (t + 2) = t + 2) := h.2.2.2.2.2.2.2.2.1
theorem kBl_s3 {t : Nat} (h : kBl t) : (∀ sw, swp sw (t + 3) = t + 3) := h.2.2.2.2.2.2.2.2.2.1
theorem kBl_s4 {t : Nat} (h : kBl t) : (∀ sw, swp sw (t + 4) = t + 4) := h.2.2.2.2.2.2.2.2.2.2.1
theorem kBl_s5 {t : Nat} (h : kBl t) : (∀ sw, swp sw (t + 5) = t + 5) := h.2.2.2.2.2.2.2.2.2.2.2.1
theorem kBl_s6 {t : Nat} (h : kBl t) : (∀ sw, swp sw (t + 6) = t + 6) := h.2.2.2.2.2.2.2.2.2.2.2.2
def kBag (t : Nat) : Prop := sh t = some (1, [none, none, some (t + 1), some (t + 2)]) ∧ sh (t + 1) = some (64, List.replicate 192 none) ∧ sh (t + 2) = some (64, List.replicate 64 none) ∧ (∀ sw, swp sw (t + 1) = t + 1) ∧ (∀ sw, swp sw (t + 2) = t + 2)
theorem kBag_0 {t : Nat} (h : kBag t) : sh t = some (1, [none, none, some (t + 1), some (t + 2)]) := h.1
theorem kBag_1 {t : Nat} (h : kBag t) : sh (t + 1) = some (64, List.replicate 192 none) := h.2.1
theorem kBag_2 {t : Nat} (h : kBag t) : sh (t + 2) = some (64, List.replicate 64 none) := h.2.2.1
theorem kBag_s1 {t : Nat} (h : kBag t) : (∀ sw, swp sw (t + 1) = t + 1) := h.2.2.2.1
theorem kBag_s2 {t : Nat} (h : kBag t) : (∀ sw, swp sw (t + 2) = t + 2) := h.2.2.2.2
def kNf (t : Nat) : Prop := sh t = some (4, [none, none, none, some (t + 1), none, some (t + 2), some (t + 3), none, some (t + 4), some (t + 5), some (t + 6), none, some (t + 7), some (t + 8), some (t + 9)]) ∧ sh (t + 1) = some (64, List.replicate 3 none) ∧ sh (t + 2) = some (64, List.replicate 6 none) ∧ sh (t + 3) = some (64, List.replicate 6 none) ∧ sh (t + 4) = some (64, List.replicate 4 none) ∧ sh (t + 5) = some (64, List.replicate 4 none) ∧ sh (t + 6) = some (64, List.replicate 4 none) ∧ sh (t + 7) = some (64, List.replicate 15 none) ∧ sh (t + 8) = some (64, List.replicate 27 none) ∧ sh (t + 9) = some (64, List.replicate 27 none) ∧ (∀ sw, swp sw (t + 1) = t + 1) ∧ (∀ sw, swp sw (t + 2) = t + 2) ∧ (∀ sw, swp sw (t + 3) = t + 3) ∧ (∀ sw, swp sw (t + 4) = t + 4) ∧ (∀ sw, swp sw (t + 5) = t + 5) ∧ (∀ sw, swp sw (t + 6) = t + 6) ∧ (∀ sw, swp sw (t + 7) = t + 7) ∧ (∀ sw, swp sw (t + 8) = t + 8) ∧ (∀ sw, swp sw (t + 9) = t + 9)
theorem kNf_0 {t : Nat} (h : kNf t) : sh t = some (4, [none, none, none, some (t + 1), none, some (t + 2), some (t + 3), none, some (t + 4), some (t + 5), some (t + 6), none, some (t + 7), some (t + 8), some (t + 9)]) := h.1
theorem kNf_1 {t : Nat} (h : kNf t) : sh (t + 1) = some (64, List.replicate 3 none) := h.2.1
theorem kNf_2 {t : Nat} (h : kNf t) : sh (t + 2) = some (64, List.replicate 6 none) := h.2.2.1
theorem kNf_3 {t : Nat} (h : kNf t) : sh (t + 3) = some (64, List.replicate 6 none) := h.2.2.2.1
theorem kNf_4 {t : Nat} (h : kNf t) : sh (t + 4) = some (64, List.replicate 4 none) := h.2.2.2.2.1
theorem kNf_5 {t : Nat} (h : kNf t) : sh (t + 5) = some (64, List.replicate 4 none) := h.2.2.2.2.2.1
theorem kNf_6 {t : Nat} (h : kNf t) : sh (t + 6) = some (64, List.replicate 4 none) := h.2.2.2.2.2.2.1
theorem kNf_7 {t : Nat} (h : kNf t) : sh (t + 7) = some (64, List.replicate 15 none) := h.2.2.2.2.2.2.2.1
theorem kNf_8 {t : Nat} (h : kNf t) : sh (t + 8) = some (64, List.replicate 27 none) := h.2.2.2.2.2.2.2.2.1
theorem kNf_9 {t : Nat} (h : kNf t) : sh (t + 9) = some (64, List.replicate 27 none) := h.2.2.2.2.2.2.2.2.2.1
theorem kNf_s1 {t : Nat} (h : kNf t) : (∀ sw, swp sw (t + 1) = t + 1) := h.2.2.2.2.2.2.2.2.2.2.1
theorem kNf_s2 {t : Nat} (h : kNf t) : (∀ sw, swp sw (t + 2) = t + 2) := h.2.2.2.2.2.2.2.2.2.2.2.1
theorem kNf_s3 {t : Nat} (h : kNf t) : (∀ sw, swp sw (t + 3) = t + 3) := h.2.2.2.2.2.2.2.2.2.2.2.2.1
theorem kNf_s4 {t : Nat} (h : kNf t) : (∀ sw, swp sw (t + 4) = t + 4) := h.2.2.2.2.2.2.2.2.2.2.2.2.2.1
theorem kNf_s5 {t : Nat} (h : kNf t) : (∀ sw, swp sw (t + 5) = t + 5) := h.2.2.2.2.2.2.2.2.2.2.2.2.2.2.1
theorem kNf_s6 {t : Nat} (h : kNf t) : (∀ sw, swp sw (t + 6) = t + 6) := h.2.2.2.2.2.2.2.2.2.2.2.2.2.2.2.1
theorem kNf_s7 {t : Nat} (h : kNf t) : (∀ sw, swp sw (t + 7) = t + 7) := h.2.2.2.2.2.2.2.2.2.2.2.2.2.2.2.2.1
theorem kNf_s8 {t : Nat} (h : kNf t) : (∀ sw, swp sw (t + 8) = t + 8) := h.2.2.2.2.2.2.2.2.2.2.2.2.2.2.2.2.2.1
theorem kNf_s9 {t : Nat} (h : kNf t) : (∀ sw, swp sw (t + 9) = t + 9) := h.2.2.2.2.2.2.2.2.2.2.2.2.2.2.2.2.2.2
def kQu (t : Nat) : Prop := sh t = some (7, [none, some (t + 1), some (t + 2)]) ∧ sh (t + 1) = some (70, [some (t + 3), some (t + 10), some (t + 17)]) ∧ sh (t + 2) = some (64, List.replicate 2 none) ∧ (∀ sw, swp sw (t + 1) = t + 1) ∧ (∀ sw, swp sw (t + 2) = t + 2) ∧ (∀ k, k < 3 → kBl (t + 3 + 7 * k) ∧ ∀ sw, swp sw (t + 3 + 7 * k) = t + 3 + 7 * k)
theorem kQu_0 {t : Nat} (h : kQu t) : sh t = some (7, [none, some (t + 1), some (t + 2)]) := h.1
theorem kQu_1 {t : Nat} (h : kQu t) : sh (t + 1) = some (70, [some (t + 3), some (t + 10), some (t + 17)]) := h.2.1
theorem kQu_2 {t : Nat} (h : kQu t) : sh (t + 2) = some (64, List.replicate 2 none) := h.2.2.1
theorem kQu_s1 {t : Nat} (h : kQu t) : (∀ sw, swp sw (t + 1) = t + 1) := h.2.2.2.1
theorem kQu_s2 {t : Nat} (h : kQu t) : (∀ sw, swp sw (t + 2) = t + 2) := h.2.2.2.2.1
theorem kQu_b {t : Nat} (h : kQu t) : (∀ k, k < 3 → kBl (t + 3 + 7 * k) ∧ ∀ sw, swp sw (t + 3 + 7 * k) = t + 3 + 7 * k) := h.2.2.2.2.2
theorem kTab_at : ∀ {k : Nat}, k < 4 → kTab (16 + 3 * k)
  | 0, _ => ⟨rfl, rfl, rfl, fun sw => by cases sw <;> rfl, fun sw => by cases sw <;> rfl⟩
  | 1, _ => ⟨rfl, rfl, rfl, fun sw => by cases sw <;> rfl, fun sw => by cases sw <;> rfl⟩
  | 2, _ => ⟨rfl, rfl, rfl, fun sw => by cases sw <;> rfl, fun sw => by cases sw <;> rfl⟩
  | 3, _ => ⟨rfl, rfl, rfl, fun sw => by cases sw <;> rfl, fun sw => by cases sw <;> rfl⟩
  | k + 4, h => absurd h (by omega)
theorem kQu_at : ∀ {k : Nat}, k < 5 → kQu (36 + 24 * k)
  | 0, _ => ⟨rfl, rfl, rfl, fun sw => by cases sw <;> rfl, fun sw => by cases sw <;> rfl, fun j hj => match j, hj with
    | 0, _ => ⟨⟨rfl, rfl, rfl, rfl, rfl, rfl, rfl, fun sw => by cases sw <;> rfl, fun sw => by cases sw <;> rfl, fun sw => by cases sw <;> rfl, fun sw => by cases sw <;> rfl, fun sw => by cases sw <;> rfl, fun sw => by cases sw <;> rfl⟩, fun sw => by cases sw <;> rfl⟩
    | 1, _ => ⟨⟨rfl, rfl, rfl, rfl, rfl, rfl, rfl, fun sw => by cases sw <;> rfl, fun sw => by cases sw <;> rfl, fun sw => by cases sw <;> rfl, fun sw => by cases sw <;> rfl, fun sw => by cases sw <;> rfl, fun sw => by cases sw <;> rfl⟩, fun sw => by cases sw <;> rfl⟩
    | 2, _ => ⟨⟨rfl, rfl, rfl, rfl, rfl, rfl, rfl, fun sw => by cases sw <;> rfl, fun sw => by cases sw <;> rfl, fun sw => by cases sw <;> rfl, fun sw => by cases sw <;> rfl, fun sw => by cases sw <;> rfl, fun sw => by cases sw <;> rfl⟩, fun sw => by cases sw <;> rfl⟩
    | j + 3, h => absurd h (by omega)⟩
  | 1, _ => ⟨rfl, rfl, rfl, fun sw => by cases sw <;> rfl, fun sw => by cases sw <;> rfl, fun j hj => match j, hj with
    | 0, _ => ⟨⟨rfl, rfl, rfl, rfl, rfl, rfl, rfl, fun sw => by cases sw <;> rfl, fun sw => by cases sw <;> rfl, fun sw => by cases sw <;> rfl, fun sw => by cases sw <;> rfl, fun sw => by cases sw <;> rfl, fun sw => by cases sw <;> rfl⟩, fun sw => by cases sw <;> rfl⟩
    | 1, _ => ⟨⟨rfl, rfl, rfl, rfl, rfl, rfl, rfl, fun sw => by cases sw <;> rfl, fun sw => by cases sw <;> rfl, fun sw => by cases sw <;> rfl, fun sw => by cases sw <;> rfl, fun sw => by cases sw <;> rfl, fun sw => by cases sw <;> rfl⟩, fun sw => by cases sw <;> rfl⟩
    | 2, _ => ⟨⟨rfl, rfl, rfl, rfl, rfl, rfl, rfl, fun sw => by cases sw <;> rfl, fun sw => by cases sw <;> rfl, fun sw => by cases sw <;> rfl, fun sw => by cases sw <;> rfl, fun sw => by cases sw <;> rfl, fun sw => by cases sw <;> rfl⟩, fun sw => by cases sw <;> rfl⟩
    | j + 3, h => absurd h (by omega)⟩
  | 2, _ => ⟨rfl, rfl, rfl, fun sw => by cases sw <;> rfl, fun sw => by cases sw <;> rfl, fun j hj => match j, hj with
    | 0, _ => ⟨⟨rfl, rfl, rfl, rfl, rfl, rfl, rfl, fun sw => by cases sw <;> rfl, fun sw => by cases sw <;> rfl, fun sw => by cases sw <;> rfl, fun sw => by cases sw <;> rfl, fun sw => by cases sw <;> rfl, fun sw => by cases sw <;> rfl⟩, fun sw => by cases sw <;> rfl⟩
    | 1, _ => ⟨⟨rfl, rfl, rfl, rfl, rfl, rfl, rfl, fun sw => by cases sw <;> rfl, fun sw => by cases sw <;> rfl, fun sw => by cases sw <;> rfl, fun sw => by cases sw <;> rfl, fun sw => by cases sw <;> rfl, fun sw => by cases sw <;> rfl⟩, fun sw => by cases sw <;> rfl⟩
    | 2, _ => ⟨⟨rfl, rfl, rfl, rfl, rfl, rfl, rfl, fun sw => by cases sw <;> rfl, fun sw => by cases sw <;> rfl, fun sw => by cases sw <;> rfl, fun sw => by cases sw <;> rfl, fun sw => by cases sw <;> rfl, fun sw => by cases sw <;> rfl⟩, fun sw => by cases sw <;> rfl⟩
    | j + 3, h => absurd h (by omega)⟩
  | 3, _ => ⟨rfl, rfl, rfl, fun sw => by cases sw <;> rfl, fun sw => by cases sw <;> rfl, fun j hj => match j, hj with
    | 0, _ => ⟨⟨rfl, rfl, rfl, rfl, rfl, rfl, rfl, fun sw => by cases sw <;> rfl, fun sw => by cases sw <;> rfl, fun sw => by cases sw <;> rfl, fun sw => by cases sw <;> rfl, fun sw => by cases sw <;> rfl, fun sw => by cases sw <;> rfl⟩, fun sw => by cases sw <;> rfl⟩
    | 1, _ => ⟨⟨rfl, rfl, rfl, rfl, rfl, rfl, rfl, fun sw => by cases sw <;> rfl, fun sw => by cases sw <;> rfl, fun sw => by cases sw <;> rfl, fun sw => by cases sw <;> rfl, fun sw => by cases sw <;> rfl, fun sw => by cases sw <;> rfl⟩, fun sw => by cases sw <;> rfl⟩
    | 2, _ => ⟨⟨rfl, rfl, rfl, rfl, rfl, rfl, rfl, fun sw => by cases sw <;> rfl, fun sw => by cases sw <;> rfl, fun sw => by cases sw <;> rfl, fun sw => by cases sw <;> rfl, fun sw => by cases sw <;> rfl, fun sw => by cases sw <;> rfl⟩, fun sw => by cases sw <;> rfl⟩
    | j + 3, h => absurd h (by omega)⟩
  | 4, _ => ⟨rfl, rfl, rfl, fun sw => by cases sw <;> rfl, fun sw => by cases sw <;> rfl, fun j hj => match j, hj with
    | 0, _ => ⟨⟨rfl, rfl, rfl, rfl, rfl, rfl, rfl, fun sw => by cases sw <;> rfl, fun sw => by cases sw <;> rfl, fun sw => by cases sw <;> rfl, fun sw => by cases sw <;> rfl, fun sw => by cases sw <;> rfl, fun sw => by cases sw <;> rfl⟩, fun sw => by cases sw <;> rfl⟩
    | 1, _ => ⟨⟨rfl, rfl, rfl, rfl, rfl, rfl, rfl, fun sw => by cases sw <;> rfl, fun sw => by cases sw <;> rfl, fun sw => by cases sw <;> rfl, fun sw => by cases sw <;> rfl, fun sw => by cases sw <;> rfl, fun sw => by cases sw <;> rfl⟩, fun sw => by cases sw <;> rfl⟩
    | 2, _ => ⟨⟨rfl, rfl, rfl, rfl, rfl, rfl, rfl, fun sw => by cases sw <;> rfl, fun sw => by cases sw <;> rfl, fun sw => by cases sw <;> rfl, fun sw => by cases sw <;> rfl, fun sw => by cases sw <;> rfl, fun sw => by cases sw <;> rfl⟩, fun sw => by cases sw <;> rfl⟩
    | j + 3, h => absurd h (by omega)⟩
  | k + 5, h => absurd h (by omega)
theorem kBag_161' : kBag 161 := ⟨rfl, rfl, rfl, fun sw => by cases sw <;> rfl, fun sw => by cases sw <;> rfl⟩
theorem kBag_164' : kBag 164 := ⟨rfl, rfl, rfl, fun sw => by cases sw <;> rfl, fun sw => by cases sw <;> rfl⟩
theorem kBag_167' : kBag 167 := ⟨rfl, rfl, rfl, fun sw => by cases sw <;> rfl, fun sw => by cases sw <;> rfl⟩
theorem kNf_170' : kNf 170 := ⟨rfl, rfl, rfl, rfl, rfl, rfl, rfl, rfl, rfl, rfl, fun sw => by cases sw <;> rfl, fun sw => by cases sw <;> rfl, fun sw => by cases sw <;> rfl, fun sw => by cases sw <;> rfl, fun sw => by cases sw <;> rfl, fun sw => by cases sw <;> rfl, fun sw => by cases sw <;> rfl, fun sw => by cases sw <;> rfl, fun sw => by cases sw <;> rfl⟩
theorem kNf_180' : kNf 180 := ⟨rfl, rfl, rfl, rfl, rfl, rfl, rfl, rfl, rfl, rfl, fun sw => by cases sw <;> rfl, fun sw => by cases sw <;> rfl, fun sw => by cases sw <;> rfl, fun sw => by cases sw <;> rfl, fun sw => by cases sw <;> rfl, fun sw => by cases sw <;> rfl, fun sw => by cases sw <;> rfl, fun sw => by cases sw <;> rfl, fun sw => by cases sw <;> rfl⟩
theorem kBag_sw161 {sw : Bool} : kBag (swp sw 161) := by cases sw <;> first | exact kBag_161' | exact kBag_164'
theorem kBag_sw164 {sw : Bool} : kBag (swp sw 164) := by cases sw <;> first | exact kBag_161' | exact kBag_164'
theorem sw_tab {sw : Bool} {k : Nat} (h : k < 4) : swp sw (16 + 3 * k) = 16 + 3 * k := swp_ne (by omega) (by omega)
theorem sw_qu {sw : Bool} {k : Nat} (h : k < 5) : swp sw (36 + 24 * k) = 36 + 24 * k := swp_ne (by omega) (by omega)
theorem el_tab : ∀ {k : Nat}, k < 4 → ([some 16, some 19, some 22, some 25] : List (Option Nat))[k]? = some (some (16 + 3 * k))
  | 0, _ => rfl
  | 1, _ => rfl
  | 2, _ => rfl
  | 3, _ => rfl
  | k + 4, h => absurd h (by omega)
theorem el_qu : ∀ {k : Nat}, k < 5 → ([some 36, some 60, some 84, some 108, some 132] : List (Option Nat))[k]? = some (some (36 + 24 * k))
  | 0, _ => rfl
  | 1, _ => rfl
  | 2, _ => rfl
  | 3, _ => rfl
  | 4, _ => rfl
  | k + 5, h => absurd h (by omega)
theorem el_bl {t : Nat} : ∀ {k : Nat}, k < 3 → ([some (t + 3), some (t + 10), some (t + 17)] : List (Option Nat))[k]? = some (some (t + 3 + 7 * k))
  | 0, _ => rfl
  | 1, _ => rfl
  | 2, _ => rfl
  | k + 3, h => absurd h (by omega)
section MW2
variable {d : Nat} {M : qM} {pc : Nat} {ls : List Slot} {st : List Value} {P : qE → Prop} {X : qH} {mem : Nat → Nat → Int32} {sw : Bool} {o : Int64} {e : List Nat} {i k ct : Nat} {sl : List (Option Nat)}
def qcl (d : Nat) (M : qM) (pc pc' : Nat) (ls : List Slot) (rest : List Value) (P : qE → Prop) : qE → Prop := fun r => (∀ v, r.1 = .inl v → QW (d + 1) M pc' ls (v.toList ++ rest) r.2 P) ∧ (∀ a, r.1 = .inr a → QT (d + 1) M pc ls a r.2 P)
theorem qcl_i {pc' : Nat} {rest : List Value} {v : Value} {h : qH} (k : QW (d + 1) M pc' ls (v :: rest) h P) : qcl d M pc pc' ls rest P (.inl (some v), h) := ⟨fun w hw => by cases hw; exact k, fun a ha => by cases ha⟩
theorem qcl_v {pc' : Nat} {rest : List Value} {h : qH} (k : QW (d + 1) M pc' ls rest h P) : qcl d M pc pc' ls rest P (.inl none, h) := ⟨fun w hw => by cases hw; exact k, fun a ha => by cases ha⟩
theorem qcl_x {pc' a : Nat} {rest : List Value} {h : qH} (hno : M.2.2.2.2 = []) (k : P (.inr a, h)) : qcl d M pc pc' ls rest P (.inr a, h) := ⟨fun w hw => (by cases hw), fun b hb => (by cases hb; exact QT.leave0 hno k)⟩
theorem MW.iinc {n : Int} {q : Nat} {x c : Int32} {ls' : List Slot} (hd : decode M.2.1 pc = .ok (.iinc q n, 3)) (hc : Int32.ofInt n = c) (hl : ls[q]? = some (.val (.int x))) (hs : qsto ls q (.int (x + c)) = some ls') {h : qH} (kk : QW d M (pc + 3) ls' st h P) : QW d M pc ls st h P := by
  subst hc
  exact QW.iinc hd hl hs kk
theorem MW.calV {M2 : qM} {idx b pc' : Nat} {as rest : List Value} {q : vw_C} (hX : X.length = 13) (hd : decode M.2.1 pc = .ok (.invokevirtual idx, 3)) (hm : qme M2) (hl : qlk M.1.cls idx M2) (hi : Cond.instanceMethod M2.1 ∈ lw_tbl) (hse : Cond.selects M2.1.cls M2.1 M2.1 ∈ lw_tbl) (hn : qnp M2 = some as.length) (hst : st = as.reverse ++ .ref b :: rest) (hs : sh b = some (ct, sl)) (hq : classes[ct]? = some q) (hqc : q.1 = M2.1.cls) (hls : ls.length = M.2.2.1) (hw : (rest.map fun v => v.category).sum ≤ 20) (hp : pc + 3 = pc')
    (hC : QW d M2 0 (qen M2.2.2.1 (.ref b :: as)) [] (hpo X mem sw o e) (qcl d M pc pc' ls rest P)) : QW (d + 1) M pc ls st (hpo X mem sw o e) P := by
  subst hp
  exact MW.callV hX hd hm hl hi hse hn hst hs hq hqc hls hw hC (fun v h' z => z.1 v rfl) (fun a h' z => z.2 a rfl)
theorem MW.calS {M2 : qM} {idx pc' : Nat} {as rest : List Value} {h : qH} (hd : decode M.2.1 pc = .ok (.invokestatic idx, 3)) (hm : qme M2) (hl : qlk M.1.cls idx M2) (hs : Cond.static M2.1 ∈ lw_tbl) (hn : qnp M2 = some as.length) (hst : st = as.reverse ++ rest) (hls : ls.length = M.2.2.1) (hw : (rest.map fun v => v.category).sum ≤ 20) (hp : pc + 3 = pc')
    (hC : QW d M2 0 (qen M2.2.2.1 as) [] h (qcl d M pc pc' ls rest P)) : QW (d + 1) M pc ls st h P := by
  subst hp
  exact QW.callS hd hm hl hs hn hst hls hw hC (fun v h' z => z.1 v rfl) (fun a h' z => z.2 a rfl)
end MW2
