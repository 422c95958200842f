/-! THE NUMBERED MEMORY (wip/gen/world.py): cell 0 the reference, 1 .. 8 its rows (s, m, image, was, letters, row, refused, numbers), 9 the class, 10 21 32 its offices (each: itself, the room, eight people, nobody), 43 trial, 44 text and its letters, 46 row, 47 refusals, 48 49 two rows of eight. Kinds: 1 the reference, 2 a row of ints, 3 an office, 4 a room, 5 a person, 6 a text, 7 the class. -/
abbrev NC : Nat := 50
def kdL : List Nat := [1, 2, 2, 2, 2, 2, 2, 2, 2, 7, 3, 4, 5, 5, 5, 5, 5, 5, 5, 5, 5, 3, 4, 5, 5, 5, 5, 5, 5, 5, 5, 5, 3, 4, 5, 5, 5, 5, 5, 5, 5, 5, 5, 5, 6, 2, 2, 2, 2, 2]
def kd (i : Nat) : Nat := kdL.getD i 0
def alL : List Nat := [0, 52, 52, 52, 52, 96, 16, 7, 3, 0, 0, 0, 0, 0, 0, 0, 0, 0, 0, 0, 0, 0, 0, 0, 0, 0, 0, 0, 0, 0, 0, 0, 0, 0, 0, 0, 0, 0, 0, 0, 0, 0, 0, 0, 0, 96, 16, 7, 8, 8]
def al (i : Nat) : Nat := alL.getD i 0
theorem kd_lt {i : Nat} (h : kd i ≠ 0) : i < NC := by
  rcases Nat.lt_or_ge i NC with q | q
  · exact q
  · exact absurd (show kdL.getD i 0 = 0 by rw [List.getD_eq_getElem?_getD, List.getElem?_eq_none (show kdL.length ≤ i from q)]; rfl) h
theorem al_all : ∀ i, i < NC → al i < 2 ^ 31 := by decide +kernel
theorem al_lt (i : Nat) : al i < 2 ^ 31 := by
  rcases Nat.lt_or_ge i NC with q | q
  · exact al_all i q
  · rw [show al i = 0 from (show alL.getD i 0 = 0 by rw [List.getD_eq_getElem?_getD, List.getElem?_eq_none (show alL.length ≤ i from q)]; rfl)]; decide
theorem kd_off_all : ∀ i, i < NC → kd i = 3 → kd (i + 1) = 4 ∧ kd (i + 10) = 5 := by decide +kernel
theorem kd_room {i : Nat} (h : kd i = 3) : kd (i + 1) = 4 := (kd_off_all i (kd_lt (by rw [h]; decide)) h).1
theorem kd_nob {i : Nat} (h : kd i = 3) : kd (i + 10) = 5 := (kd_off_all i (kd_lt (by rw [h]; decide)) h).2
theorem kd_el_all : ∀ i, i < NC → kd i = 4 → ∀ j, j < 8 → kd (i + 1 + j) = 5 := by decide +kernel
theorem kd_el {i j : Nat} (h : kd i = 4) (hj : j < 8) : kd (i + 1 + j) = 5 := kd_el_all i (kd_lt (by rw [h]; decide)) h j hj
def gG (cy : ClassId × ClassId) (ad : Nat → Nat) (μ : mm) (i : Nat) : va_E :=
  if kd i = 2 then .inl (cy.1, al i, .inl (fun j => iO (μ i j)))
  else if kd i = 4 then .inl (cy.2, 8, .inr (.inr (.inr (.inr (fun j => some (ad (i + 1 + j)))))))
  else if kd i = 3 then .inr (0, [.ref (ad (i + 1)), .ref (ad (i + 10)), .int (iO (μ i 2)), .int (iO (μ i 3)), .int (iO (μ i 4)), .int (iO (μ i 5))])
  else if kd i = 5 then .inr (1, [.int (iO (μ i 0)), .int (iO (μ i 1)), .int (iO (μ i 2)), .int (iO (μ i 3)), .int (iO (μ i 4)), .int (iO (μ i 5)), .int (iO (μ i 6)), .int (iO (μ i 7))])
  else if kd i = 6 then .inr (2, [.ref (ad (i + 1)), .int (iO (μ i 1))])
  else if kd i = 7 then .inr (3, [.ref (ad 10), .ref (ad 21), .ref (ad 32), .ref (ad 43), .ref (ad 44), .ref (ad 46), .ref (ad 47), .ref (ad 48), .ref (ad 49), .int (iO (μ i 9)), .int (iO (μ i 10))])
  else .inr (4, [.ref (ad 1), .ref (ad 2), .ref (ad 3), .ref (ad 4), .int (iO (μ i 4)), .ref (ad 5), .ref (ad 6), .ref (ad 7), .int (iO (μ i 8)), .int (iO (μ i 9)), .int (iO (μ i 10)), .ref (ad 8), .int (iO (μ i 12))])
theorem gG_2 {cy : ClassId × ClassId} {ad : Nat → Nat} {μ : mm} {i : Nat} (h : kd i = 2) : gG cy ad μ i = .inl (cy.1, al i, .inl (fun j => iO (μ i j))) := by rw [gG, if_pos h]
theorem gG_4 {cy : ClassId × ClassId} {ad : Nat → Nat} {μ : mm} {i : Nat} (h : kd i = 4) : gG cy ad μ i = .inl (cy.2, 8, .inr (.inr (.inr (.inr (fun j => some (ad (i + 1 + j))))))) := by simp [gG, h]
theorem gG_1 {cy : ClassId × ClassId} {ad : Nat → Nat} {μ : mm} {i : Nat} (h : kd i = 1) : gG cy ad μ i = .inr (4, [.ref (ad 1), .ref (ad 2), .ref (ad 3), .ref (ad 4), .int (iO (μ i 4)), .ref (ad 5), .ref (ad 6), .ref (ad 7), .int (iO (μ i 8)), .int (iO (μ i 9)), .int (iO (μ i 10)), .ref (ad 8), .int (iO (μ i 12))]) := by simp [gG, h]
theorem gG_3 {cy : ClassId × ClassId} {ad : Nat → Nat} {μ : mm} {i : Nat} (h : kd i = 3) : gG cy ad μ i = .inr (0, [.ref (ad (i + 1)), .ref (ad (i + 10)), .int (iO (μ i 2)), .int (iO (μ i 3)), .int (iO (μ i 4)), .int (iO (μ i 5))]) := by simp [gG, h]
theorem gG_5 {cy : ClassId × ClassId} {ad : Nat → Nat} {μ : mm} {i : Nat} (h : kd i = 5) : gG cy ad μ i = .inr (1, [.int (iO (μ i 0)), .int (iO (μ i 1)), .int (iO (μ i 2)), .int (iO (μ i 3)), .int (iO (μ i 4)), .int (iO (μ i 5)), .int (iO (μ i 6)), .int (iO (μ i 7))]) := by simp [gG, h]
theorem gG_6 {cy : ClassId × ClassId} {ad : Nat → Nat} {μ : mm} {i : Nat} (h : kd i = 6) : gG cy ad μ i = .inr (2, [.ref (ad (i + 1)), .int (iO (μ i 1))]) := by simp [gG, h]
theorem gG_7 {cy : ClassId × ClassId} {ad : Nat → Nat} {μ : mm} {i : Nat} (h : kd i = 7) : gG cy ad μ i = .inr (3, [.ref (ad 10), .ref (ad 21), .ref (ad 32), .ref (ad 43), .ref (ad 44), .ref (ad 46), .ref (ad 47), .ref (ad 48), .ref (ad 49), .int (iO (μ i 9)), .int (iO (μ i 10))]) := by simp [gG, h]
theorem gG_congr {cy : ClassId × ClassId} {ad : Nat → Nat} {μ ν : mm} {i : Nat} (h : ν i = μ i) : gG cy ad ν i = gG cy ad μ i := by simp only [gG, h]
theorem gG_mu {cy : ClassId × ClassId} {ad : Nat → Nat} {μ : mm} {i j k : Nat} {v : Int} (h : j ≠ i) : gG cy ad (mu μ i k v) j = gG cy ad μ j := gG_congr (funext fun b => mu_c h)
def cel (cy : ClassId × ClassId) (ad : Nat → Nat) (μ : mm) : va_W := (List.range NC).map fun i => (ad i, gG cy ad μ i)
theorem cel_at {cy : ClassId × ClassId} {ad : Nat → Nat} {μ : mm} {i : Nat} (h : i < NC) : (cel cy ad μ)[i]? = some (ad i, gG cy ad μ i) := by
  simp only [cel, List.getElem?_map, List.getElem?_range h, Option.map_some]
theorem cel_len {cy : ClassId × ClassId} {ad : Nat → Nat} {μ : mm} : (cel cy ad μ).length = NC := by simp [cel]
theorem cel_of {cy : ClassId × ClassId} {ad : Nat → Nat} {μ : mm} {k : Nat} {q : Nat × va_E} (h : (cel cy ad μ)[k]? = some q) : k < NC ∧ q = (ad k, gG cy ad μ k) := by
  have hk : k < NC := by
    have := (List.getElem?_eq_some_iff.mp h).1
    rwa [cel_len] at this
  rw [cel_at hk] at h
  exact ⟨hk, (Option.some.inj h).symm⟩
theorem cel_set {cy : ClassId × ClassId} {ad : Nat → Nat} {μ ν : mm} {i : Nat} (h : i < NC) (hn : ∀ j, j ≠ i → gG cy ad ν j = gG cy ad μ j) : (cel cy ad μ).set i (ad i, gG cy ad ν i) = cel cy ad ν := by
  apply List.ext_getElem?
  intro j
  rcases Nat.lt_or_ge j NC with q | q
  · rw [cel_at q, List.getElem?_set, cel_len, cel_at q]
    by_cases e : i = j
    · subst e; rw [if_pos rfl, if_pos q]
    · rw [if_neg e, hn j (Ne.symm e)]
  · rw [List.getElem?_eq_none (by rw [List.length_set, cel_len]; exact q), List.getElem?_eq_none (by rw [cel_len]; exact q)]
abbrev tyL (cy : ClassId × ClassId) : List (ClassId × FieldType) := [(cy.1, .int), (cy.2, .object "GritIsIssued$Person")]
/-- what a method's walk stands on -/
def zC (p : Program) (s : State) (m : MethodId) (args : Array Value) (c : Code) (cc : ByteArray) (own : String) (Ts : List Cond) (nL : Nat) (D : va_G) (cy : ClassId × ClassId) : Prop := p.tables.exec = Jvm.exec ∧ c.code = cc ∧ c.maxLocals = nL ∧ s.vm.findClass own = some m.cls ∧ (∀ w ∈ Ts, w.before args s = true) ∧ va_K D vwCl (tyL cy) s
/-- the world on a heap -/
def zW (D : va_G) (cy : ClassId × ClassId) (ad : Nat → Nat) (A : Nat → Prop) (H0 : Heap) (μ : mm) (H : Heap) (locs : List Loc) : Prop := va_P D vwCl (cel cy ad μ) H ∧ va_D A (cel cy ad μ) ∧ va_S A H0 H locs
def zA (ad : Nat → Nat) (sz : Nat) : Nat → Prop := fun q => (∃ i, i < NC ∧ q = ad i) ∨ sz ≤ q
def rmD (d : Nat) : Room := { frames := d, cells := 0, slots := 0, locals := 39 * d }
def lenS : List Nat := [5, 4, 2, 3, 0, 6]
def bytS : List (List Int32) := [[107, 48, 48, 48, 59], [48, 48, 48, 59], [48, 59], [48, 48, 59], [], [99, 109, 104, 116, 100, 103]]
/-- the text constants (their places at ad 60 .., their bytes at ad 80 ..), and two statics that nobody writes -/
def zSt (ad : Nat → Nat) (A : Nat → Prop) (U : State) (H : Heap) : Prop := vk_S 6 lenS bytS (fun i => ad (60 + i)) (fun i => ad (80 + i)) A U H ∧ (vk_R "GritIsIssued$Text" 50 "k000;" (ad 60) U ∧ vk_R "GritIsIssued$Text" 52 "000;" (ad 61) U ∧ vk_R "GritIsIssued$Text" 54 "0;" (ad 62) U ∧ vk_R "GritIsIssued$Text" 56 "00;" (ad 63) U ∧ vk_R "GritIsIssued$Text" 58 "" (ad 64) U ∧ vk_R "GritIsIssued$Text" 23 "cmhtdg" (ad 65) U ∧ vk_R "GritIsIssued" 212 "cmhtdg" (ad 65) U) ∧ va_Z "java/lang/String" "COMPACT_STRINGS" "Z" (.int 1) A U H ∧ va_Zq "jdk/internal/util/Preconditions" "SIOOBE_FORMATTER" "Ljava/util/function/BiFunction;" A U H
theorem zSt.same {ad : Nat → Nat} {A : Nat → Prop} {u U : State} {H : Heap} (hv : U.vm = u.vm) (h : zSt ad A u H) : zSt ad A U H := by
  obtain ⟨h1, ⟨r1, r2, r3, r4, r5, r6, r7⟩, h3, h4⟩ := h
  have hA : u.vm.Alike U.vm := by rw [hv]; exact Vm.Alike.refl _
  exact ⟨h1.moved hA, ⟨r1.same hv, r2.same hv, r3.same hv, r4.same hv, r5.same hv, r6.same hv, r7.same hv⟩, h3.moved hA, h4.moved hA⟩
theorem zSt.call {ad : Nat → Nat} {A B : Nat → Prop} {s U : State} {H0 H : Heap} (h : zSt ad A s H0) (hW : s.WarmedH U.vm) (hq : ∀ a : Nat, a < H0.size → ¬ A a → H[a]? = H0[a]?) (hB : ∀ q, B q → A q) : zSt ad B U H := by
  obtain ⟨h1, ⟨r1, r2, r3, r4, r5, r6, r7⟩, h3, h4⟩ := h
  exact ⟨((h1.moved hW.alike).kept hq).narrow hB, ⟨r1.warm hW, r2.warm hW, r3.warm hW, r4.warm hW, r5.warm hW, r6.warm hW, r7.warm hW⟩, ((h3.moved hW.alike).kept hq).narrow hB, ((h4.moved hW.alike).kept hq).narrow hB⟩
def zPre (D : va_G) (cy : ClassId × ClassId) (ad : Nat → Nat) (μ : mm) (sz : Nat) (U : State) : Prop := U.heap.size = sz ∧ va_P D vwCl (cel cy ad μ) U.heap ∧ va_K D vwCl (tyL cy) U ∧ va_D (fun _ => True) (cel cy ad μ) ∧ zSt ad (zA ad sz) U U.heap
def zAt (D : va_G) (cy : ClassId × ClassId) (ad : Nat → Nat) (A : Nat → Prop) (μ : mm) (t : State) : Prop := va_P D vwCl (cel cy ad μ) t.heap ∧ va_K D vwCl (tyL cy) t ∧ va_D A (cel cy ad μ)
abbrev zQi (D : va_G) (cy : ClassId × ClassId) (ad : Nat → Nat) (A : Nat → Prop) (r : Int) (ν : mm) : Array Value → State → Outcome → State → Prop := va_Qi (fun (x : Int32) (u : mm) => x = iO r ∧ u = ν) (fun u t => zAt D cy ad A u t) A
abbrev zQl (D : va_G) (cy : ClassId × ClassId) (ad : Nat → Nat) (A : Nat → Prop) (r : Int) (ν : mm) : Array Value → State → Outcome → State → Prop := va_Ql (fun (x : Int64) (u : mm) => x = lO r ∧ u = ν) (fun u t => zAt D cy ad A u t) A
abbrev zQv (D : va_G) (cy : ClassId × ClassId) (ad : Nat → Nat) (A : Nat → Prop) (ν : mm) : Array Value → State → Outcome → State → Prop := va_Qv (fun (u : mm) => u = ν) (fun u t => zAt D cy ad A u t) A
abbrev zQr (D : va_G) (cy : ClassId × ClassId) (ad : Nat → Nat) (A : Nat → Prop) (k : Nat) (ν : mm) : Array Value → State → Outcome → State → Prop := va_Qr (fun (u : mm) => u = ν) (fun u a t => a = ad k ∧ zAt D cy ad A u t) A
/-- contracts: the answer an int (or boolean), a long, nothing, a cell -/
def zI (l : Launch) (y : MethodName) (ws : List Cond) (d : Nat) (D : va_G) (cy : ClassId × ClassId) (ad : Nat → Nat) (av : List Value) (μ : mm) (r : Int) (ν : mm) : Prop := ∀ sz : Nat, Met l y ws (rmD d) (va_Pc av (zPre D cy ad μ sz)) (zQi D cy ad (zA ad sz) r ν) 0 0 (zA ad sz)
def zJ (l : Launch) (y : MethodName) (ws : List Cond) (d : Nat) (D : va_G) (cy : ClassId × ClassId) (ad : Nat → Nat) (av : List Value) (μ : mm) (r : Int) (ν : mm) : Prop := ∀ sz : Nat, Met l y ws (rmD d) (va_Pc av (zPre D cy ad μ sz)) (zQl D cy ad (zA ad sz) r ν) 0 0 (zA ad sz)
def zV (l : Launch) (y : MethodName) (ws : List Cond) (d : Nat) (D : va_G) (cy : ClassId × ClassId) (ad : Nat → Nat) (av : List Value) (μ ν : mm) : Prop := ∀ sz : Nat, Met l y ws (rmD d) (va_Pc av (zPre D cy ad μ sz)) (zQv D cy ad (zA ad sz) ν) 0 0 (zA ad sz)
def zR (l : Launch) (y : MethodName) (ws : List Cond) (d : Nat) (D : va_G) (cy : ClassId × ClassId) (ad : Nat → Nat) (av : List Value) (μ : mm) (k : Nat) (ν : mm) : Prop := ∀ sz : Nat, Met l y ws (rmD d) (va_Pc av (zPre D cy ad μ sz)) (zQr D cy ad (zA ad sz) k ν) 0 0 (zA ad sz)
theorem zPre_blind {D : va_G} {cy : ClassId × ClassId} {ad : Nat → Nat} {μ : mm} {sz : Nat} {av : List Value} : FrameBlind (va_Pc av (zPre D cy ad μ sz)) := fun a U g mk q => by
  obtain ⟨q0, q1, qP, qK, qD, qT⟩ := q
  exact ⟨q0, q1, qP, va_K.moved (u := U) (U := U.calling g mk a) (Vm.Alike.refl U.vm) qK, qD, zSt.same (u := U) (U := U.calling g mk a) rfl qT⟩
theorem cel_adr {cy : ClassId × ClassId} {ad : Nat → Nat} {μ ν : mm} {A : Nat → Prop} (h : va_D A (cel cy ad μ)) : va_D A (cel cy ad ν) := by
  refine ⟨fun i j p q hi hj e => ?_, fun k q hk => ?_⟩
  · obtain ⟨ki, rfl⟩ := cel_of hi
    obtain ⟨kj, rfl⟩ := cel_of hj
    exact h.1 i j _ _ (cel_at ki) (cel_at kj) e
  · obtain ⟨kk, rfl⟩ := cel_of hk
    exact h.2 k (ad k, gG cy ad μ k) (cel_at kk)
theorem cel_self {cy : ClassId × ClassId} {ad : Nat → Nat} {μ : mm} {A : Nat → Prop} {sz : Nat} (h : va_D A (cel cy ad μ)) : va_D (zA ad sz) (cel cy ad μ) := ⟨h.1, fun k q hk => by
  obtain ⟨kk, rfl⟩ := cel_of hk
  exact Or.inl ⟨k, kk, rfl⟩⟩
theorem zA_sub {cy : ClassId × ClassId} {ad : Nat → Nat} {μ : mm} {A : Nat → Prop} {H0 H : Heap} {locs : List Loc} (hD : va_D A (cel cy ad μ)) (hS : va_S A H0 H locs) (hA : ∀ q, H0.size ≤ q → A q) : ∀ q, zA ad H.size q → A q := by
  intro q h
  rcases h with ⟨i, hi, rfl⟩ | h
  · exact hD.2 i _ (cel_at hi)
  · exact hA q (Nat.le_trans hS.1 h)
def blen (b : Nat) : Int := ((lenS.getD (b - 80) 0 : Nat) : Int)
def bch (b k : Nat) : Int := ((bytS.getD (b - 80) []).getD k 0).toInt
def zpop (x : Int) : Int := x % 2 + x / 2 % 2 + x / 4 % 2 + x / 8 % 2 + x / 16 % 2 + x / 32 % 2 + x / 64 % 2 + x / 128 % 2
def zcmp (x y : Int) : Int := if x < y then -1 else if x = y then 0 else 1
def zand (x y : Int) : Int := (iO x &&& iO y).toInt
def zor (x y : Int) : Int := (iO x ||| iO y).toInt
def zxor (x y : Int) : Int := (iO x ^^^ iO y).toInt
def M6_bitCount_0f7a4 (N : Nat) (a0 : Int) (μ0 : mm) : Option Int := if 0 ≤ a0 ∧ a0 < 256 then some (zpop a0) else none
def M0_checkIndex_df160 (N : Nat) (a0 a1 : Int) (μ0 : mm) : Option mm := if inR a0 ∧ inR a1 ∧ 0 ≤ a0 ∧ a0 < a1 then some μ0 else none
