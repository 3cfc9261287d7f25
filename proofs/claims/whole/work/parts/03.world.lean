/-! THE ABSTRACT WORLD: references are numbers (0 null; 1 to 15 what was there before the law: the script, static arrays, texts; from 16 on what the law makes, in order); a cell has a kind (class, or type of array), a length, and slots that hold ints, longs or references -/
abbrev AV : Type := Int32 ⊕ Int64 ⊕ Nat
abbrev AW : Type := Nat × Nat × (Nat → Nat) × (Nat → Nat) × (Nat → Nat → Int32) × (Nat → Nat → Int64) × (Nat → Nat → Nat)
/-- classes' numbers, fields' slots, array classes' numbers, the first new address, the addresses of what was there, the heap at the law's entry -/
abbrev AG : Type := (Nat → ClassId) × (Nat → Nat → Nat) × (Nat → ClassId) × Nat × (Nat → Nat) × Heap
abbrev AX : Type := Program × Launch × Env × Room × State × MethodId × Array Value × List Frame × Method × Code × (State → Prop) × AG
abbrev vi (x : Int32) : AV := .inl x
abbrev vl (x : Int64) : AV := .inr (.inl x)
abbrev vr (n : Nat) : AV := .inr (.inr n)
def wz (w : AW) : Nat := w.1
def wq (w : AW) : Nat := w.2.1
def wk (w : AW) (a : Nat) : Nat := w.2.2.1 a
def wn (w : AW) (a : Nat) : Nat := w.2.2.2.1 a
def wi (w : AW) (a i : Nat) : Int32 := w.2.2.2.2.1 a i
def wj (w : AW) (a i : Nat) : Int64 := w.2.2.2.2.2.1 a i
def wr (w : AW) (a i : Nat) : Nat := w.2.2.2.2.2.2 a i
def up2 {α : Type} (f : Nat → Nat → α) (a i : Nat) (x : α) : Nat → Nat → α := fun b j => if b = a ∧ j = i then x else f b j
def upI (w : AW) (a i : Nat) (x : Int32) : AW := (w.1, w.2.1, w.2.2.1, w.2.2.2.1, up2 w.2.2.2.2.1 a i x, w.2.2.2.2.2.1, w.2.2.2.2.2.2)
def upJ (w : AW) (a i : Nat) (x : Int64) : AW := (w.1, w.2.1, w.2.2.1, w.2.2.2.1, w.2.2.2.2.1, up2 w.2.2.2.2.2.1 a i x, w.2.2.2.2.2.2)
def upR (w : AW) (a i : Nat) (x : Nat) : AW := (w.1, w.2.1, w.2.2.1, w.2.2.2.1, w.2.2.2.2.1, w.2.2.2.2.2.1, up2 w.2.2.2.2.2.2 a i x)
def isR (k i : Nat) : Bool := if k < 100 then (rtab.getD (k - 1) []).getD i 0 == 1 else Nat.ble 105 k && Nat.ble k 109
def sv (w : AW) (a i : Nat) : AV := if wk w a = 101 then vl (wj w a i) else if isR (wk w a) i = true then vr (wr w a i) else vi (wi w a i)
def ad (G : AG) (n : Nat) : Nat := if n < 16 then G.2.2.2.2.1 n else G.2.2.2.1 + (n - 16)
def rv (G : AG) (v : AV) : Value := match v with
  | .inl x => .int x
  | .inr (.inl y) => .long y
  | .inr (.inr 0) => .null
  | .inr (.inr (n + 1)) => .ref (ad G (n + 1))
def rl (G : AG) (ls : List (Nat × AV)) : List (Nat × Value) := ls.map (fun q => (q.1, rv G q.2))
/-- a cell of the world stands in the heap -/
def cok (G : AG) (U : State) (w : AW) (H : Heap) (a : Nat) : Prop :=
  if wk w a < 100 then ∃ q, kc[wk w a - 1]? = some q ∧ t_OB (ad G a) (G.1 (wk w a - 1)) q.2.2 (G.2.1 (wk w a - 1)) H (fun j => rv G (sv w a j))
  else if wk w a < 110 then H[ad G a]? = some (arrV (G.2.2.1 (wk w a)) (wn w a) (fun j => rv G (sv w a j)))
  else if wk w a < 112 then va_T (if wk w a = 110 then .int else .byte) (ad G a) (wn w a) (fun j => .int (wi w a j)) (fun q => G.2.2.2.1 ≤ q) U H
  else va_O "java/lang/String" (ad G a) (fun q => G.2.2.2.1 ≤ q) U H ∧ va_OF "java/lang/String" "coder" "B" (.int 0) (ad G a) (fun q => G.2.2.2.1 ≤ q) U H ∧ va_OF "java/lang/String" "value" "[B" (rv G (vr (wr w a 0))) (ad G a) (fun q => G.2.2.2.1 ≤ q) U H
def Sm (G : AG) (U : State) (w : AW) (H : Heap) : Prop :=
  16 ≤ wz w ∧ H.size = G.2.2.2.1 + (wz w - 16) ∧ G.2.2.2.1 = G.2.2.2.2.2.size ∧ (∀ q : Nat, q < G.2.2.2.1 → H[q]? = G.2.2.2.2.2[q]?) ∧ (∀ a, wk w a ≠ 0 → cok G U w H a) ∧ (∀ a, wk w a ≠ 0 → wk w a < 110 → 16 ≤ a ∧ a < wz w) ∧ wk w 0 = 0
def atys (G : AG) : List (ClassId × FieldType) := [(G.2.2.1 100, .int), (G.2.2.1 101, .long), (G.2.2.1 102, .byte), (G.2.2.1 103, .short), (G.2.2.1 104, .boolean), (G.2.2.1 105, .object "RedSky$Days"), (G.2.2.1 106, .object "RedSky$Diary"), (G.2.2.1 107, .object "RedSky$Saying"), (G.2.2.1 108, .object "RedSky$Almanac")]
/-- static fields that nobody writes -/
def stt : List (String × String × String × AV) := [("RedSky$Calendar", "LENGTHS", "[I", vr 2), ("RedSky$Diary", "LOWEST", "[I", vr 3), ("RedSky$Diary", "HIGHEST", "[I", vr 4), ("RedSky$Diary", "SHIFTS", "[I", vr 5), ("RedSky$Diary", "MASKS", "[I", vr 6), ("java/lang/String", "COMPACT_STRINGS", "Z", vi 1)]
/-- the words that hold in every warmed state -/
def tb : List Cond := lw_tbl.filter goodWord
theorem tb_mem (i : Nat) {w : Cond} (h : lw_tbl[i]? = some w) (hg : goodWord w = true) : w ∈ tb := List.mem_filter.mpr ⟨List.mem_of_getElem? h, hg⟩
theorem tb_good {y : MethodName} {b : ByteArray} {nL : Nat} {ret : Option FieldType} (h : Cond.code y b nL ret ∈ tb) : GoodIn tb (Cond.code y b nL ret :: tb) := by
  intro w hw
  rcases List.mem_cons.mp hw with rfl | hw
  · exact ⟨h, good_of_word (List.mem_filter.mp h).2⟩
  · exact ⟨hw, good_of_word (List.mem_filter.mp hw).2⟩
def Kn (G : AG) (U : State) : Prop := va_K (G.1, G.2.1) kc (atys G) U ∧ (∀ q ∈ stt, va_Z q.1 q.2.1 q.2.2.1 (rv G q.2.2.2) (fun a => G.2.2.2.1 ≤ a) U G.2.2.2.2.2) ∧ vk_R "RedSky$Page" 152 "SWRT" (ad G 7) U ∧ vk_R "RedSky$Page" 159 "<=>" (ad G 8) U ∧ (∀ (a : String) (i : Nat) (x : MethodName) (h : String), Cond.methodLinkNest a i x h ∈ lw_tbl → va_Nw (.methodLinkNest a i x h) U) ∧ ∀ C : String, Cond.arrayOver (.object C) ∈ lw_tbl → va_AO C U
theorem Kn.warm {G : AG} {s U : State} (hW : s.WarmedH U.vm) (h : Kn G s) : Kn G U :=
  ⟨va_K.moved hW.alike h.1, fun q hq => va_Z.moved hW.alike (h.2.1 q hq), vk_R.warm hW h.2.2.1, vk_R.warm hW h.2.2.2.1, fun a i x z hm => (h.2.2.2.2.1 a i x z hm).warmM hW, fun C hm => (h.2.2.2.2.2 C hm).moved hW.alike⟩
theorem Kn.same {G : AG} {s U : State} (hv : U.vm = s.vm) (h : Kn G s) : Kn G U := by
  have hA : s.vm.Alike U.vm := by rw [hv]; exact Vm.Alike.refl _
  exact ⟨va_K.moved hA h.1, fun q hq => va_Z.moved hA (h.2.1 q hq), vk_R.same hv h.2.2.1, vk_R.same hv h.2.2.2.1, fun a i x z hm => va_Nw.same rfl hv.symm (h.2.2.2.2.1 a i x z hm), fun C hm => (h.2.2.2.2.2 C hm).moved hA⟩
theorem cok.moved {G : AG} {s U : State} {w : AW} {H : Heap} {a : Nat} (hA : s.vm.Alike U.vm) (h : cok G s w H a) : cok G U w H a := by
  unfold cok at h ⊢
  split at h
  · rename_i h1; rw [if_pos h1]; exact h
  · rename_i h1
    rw [if_neg h1]
    split at h
    · rename_i h2; rw [if_pos h2]; exact h
    · rename_i h2
      rw [if_neg h2]
      split at h
      · rename_i h3; rw [if_pos h3]; exact va_T.moved hA h
      · rename_i h3; rw [if_neg h3]; exact ⟨va_O.moved hA h.1, va_OF.moved hA h.2.1, va_OF.moved hA h.2.2⟩
theorem Sm.moved {G : AG} {s U : State} {w : AW} {H : Heap} (hA : s.vm.Alike U.vm) (h : Sm G s w H) : Sm G U w H :=
  ⟨h.1, h.2.1, h.2.2.1, h.2.2.2.1, fun a ha => (h.2.2.2.2.1 a ha).moved hA, h.2.2.2.2.2⟩
/-- the machine at a place of a method, with these locals and stack over any heap that the world stands in, comes to its end -/
def RJ (X : AX) (nL k n pc : Nat) (ls : List (Nat × AV)) (st : List AV) (w : AW) : Prop := match X with
  | (p, l, e, R, s, m, args, below, meth, c, Q, G) => ∀ (H : Heap) (locs : List Loc) (lsr : Array Slot), Sm G s w H → (∀ q ∈ locs, G.2.2.2.1 ≤ q.base) → lv_has lsr nL (rl G ls) → W p l e R s m args below meth c H locs k n Q (F0 m pc lsr (st.map (rv G)))
/-- what is fixed in a method: its code, its class, the tables' words -/
def XOK (X : AX) (cc : ByteArray) (own : String) (nL : Nat) : Prop := match X with
  | (p, l, e, R, s, m, args, below, meth, c, Q, G) => p.tables.exec = Jvm.exec ∧ c.code = cc ∧ c.maxLocals = nL ∧ s.vm.findClass own = some m.cls ∧ (∀ w ∈ tb, w.before args s = true) ∧ Kn G s ∧ meth.locks = false
theorem rl_at {G : AG} {lsr : Array Slot} {nL : Nat} {ls : List (Nat × AV)} (h : lv_has lsr nL (rl G ls)) (k : Nat) {i : Nat} {v : AV} (hk : ls[k]? = some (i, v)) : lsr[i]? = some (.val (rv G v)) :=
  lv_at h k (by unfold rl; rw [List.getElem?_map, hk]; rfl)
theorem rv_cat (G : AG) (v : AV) : (rv G v).category = (match v with | .inr (.inl _) => 2 | _ => 1) := by
  match v with
  | .inl x => rfl
  | .inr (.inl y) => rfl
  | .inr (.inr 0) => rfl
  | .inr (.inr (n + 1)) => rfl
def c2 (v : AV) : Bool := match v with
  | .inr (.inl _) => true
  | _ => false
theorem rv_c2 (G : AG) (v : AV) : ((rv G v).category == 2) = c2 v := by
  match v with
  | .inl x => rfl
  | .inr (.inl y) => rfl
  | .inr (.inr 0) => rfl
  | .inr (.inr (n + 1)) => rfl
def sto (i : Nat) (v : AV) (ls : List (Nat × AV)) : List (Nat × AV) := (i, v) :: ls.filter (fun q => !(q.1 == i) && !(q.1 + 1 == i && c2 q.2))
def sto2 (i : Nat) (v : AV) (ls : List (Nat × AV)) : List (Nat × AV) := (i, v) :: ls.filter (fun q => !(q.1 == i) && (!(q.1 == i + 1) && !(q.1 + 1 == i && c2 q.2)))
theorem rl_sto (G : AG) (i : Nat) (v : AV) (ls : List (Nat × AV)) : (i, rv G v) :: (rl G ls).filter (fun q => !(q.1 == i) && !(q.1 + 1 == i && q.2.category == 2)) = rl G (sto i v ls) := by
  unfold sto rl
  rw [List.map_cons, List.filter_map]
  congr 2
  apply List.filter_congr
  intro q _
  simp only [Function.comp, rv_c2]
theorem rl_sto2 (G : AG) (i : Nat) (v : AV) (ls : List (Nat × AV)) : (i, rv G v) :: (rl G ls).filter (fun q => !(q.1 == i) && (!(q.1 == i + 1) && !(q.1 + 1 == i && q.2.category == 2))) = rl G (sto2 i v ls) := by
  unfold sto2 rl
  rw [List.map_cons, List.filter_map]
  congr 2
  apply List.filter_congr
  intro q _
  simp only [Function.comp, rv_c2]
/-- fewer locals, in another order -/
theorem rj_sub {X : AX} {nL k n pc : Nat} {ls : List (Nat × AV)} {st : List AV} {w : AW} (ks : List Nat) {ls' : List (Nat × AV)} (h : ks.filterMap (fun j => ls[j]?) = ls') (kk : RJ X nL k n pc ls' st w) : RJ X nL k n pc ls st w := by
  obtain ⟨p, l, e, R, s, m, args, below, meth, c, Q, G⟩ := X
  intro H locs lsr hs hf hl
  refine kk H locs lsr hs hf (lv_sub hl ks ?_)
  subst h
  unfold lv_pick rl
  rw [List.map_filterMap]
  congr 1
  funext j
  rw [List.getElem?_map]
