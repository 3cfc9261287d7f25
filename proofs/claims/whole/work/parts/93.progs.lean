/-! PURE: two programs that grow side by side -/
theorem run_app (g : Nat → Int → Bool) : ∀ (P Q : List (Nat × Int)) (st : List Bool), run g (P ++ Q) st = run g Q (run g P st)
  | [], _, _ => rfl
  | m :: P, Q, st => run_app g P Q (stp g m st)
def okt (cap : Nat) : List (Nat × Int) → Nat → Nat → Prop
  | [], h, e => h = e
  | m :: r, h, e => if m.1 < 12 then h < cap ∧ okt cap r (h + 1) e else if m.1 = 12 then 1 ≤ h ∧ h ≤ cap ∧ okt cap r h e else 2 ≤ h ∧ h ≤ cap ∧ okt cap r (h - 1) e
theorem okt_okh {cap : Nat} : ∀ {P : List (Nat × Int)} {h : Nat}, okt cap P h 1 → okh cap P h
  | [], _, q => q
  | m :: r, h, q => by
    unfold okt at q; unfold okh
    by_cases h1 : m.1 < 12
    · rw [if_pos h1] at q ⊢; exact ⟨q.1, okt_okh q.2⟩
    · rw [if_neg h1] at q ⊢
      by_cases h2 : m.1 = 12
      · rw [if_pos h2] at q ⊢; exact ⟨q.1, q.2.1, okt_okh q.2.2⟩
      · rw [if_neg h2] at q ⊢; exact ⟨q.1, q.2.1, okt_okh q.2.2⟩
theorem okt_app {cap : Nat} {Q : List (Nat × Int)} {e f : Nat} (hQ : okt cap Q e f) : ∀ {P : List (Nat × Int)} {h : Nat}, okt cap P h e → okt cap (P ++ Q) h f
  | [], _, q => by
    have q' : _ = e := q
    subst q'
    exact hQ
  | m :: r, h, q => by
    show okt cap (m :: (r ++ Q)) h f
    unfold okt at q ⊢
    by_cases h1 : m.1 < 12
    · rw [if_pos h1] at q ⊢; exact ⟨q.1, okt_app hQ q.2⟩
    · rw [if_neg h1] at q ⊢
      by_cases h2 : m.1 = 12
      · rw [if_pos h2] at q ⊢; exact ⟨q.1, q.2.1, okt_app hQ q.2.2⟩
      · rw [if_neg h2] at q ⊢; exact ⟨q.1, q.2.1, okt_app hQ q.2.2⟩
theorem okt_c {cap m h : Nat} {z : Int} (hm : m < 12) (hh : h < cap) : okt cap [(m, z)] h (h + 1) := by
  unfold okt; rw [if_pos hm]; exact ⟨hh, rfl⟩
theorem okt_n {cap h : Nat} (h1 : 1 ≤ h) (h2 : h ≤ cap) : ∀ n, okt cap (List.replicate n ((12, 0) : Nat × Int)) h h
  | 0 => rfl
  | n + 1 => by
    rw [List.replicate_succ]
    unfold okt
    rw [if_neg (show ¬ (12 : Nat) < 12 by omega), if_pos rfl]
    exact ⟨h1, h2, okt_n h1 h2 n⟩
theorem okt_b {cap m h : Nat} (hm : m = 13 ∨ m = 14) (h1 : 2 ≤ h) (h2 : h ≤ cap) : okt cap [(m, 0)] h (h - 1) := by
  unfold okt
  rw [if_neg (show ¬ m < 12 by omega), if_neg (show ¬ m = 12 by omega)]
  exact ⟨h1, h2, rfl⟩
/-- the comparisons of a program -/
def cms (P : List (Nat × Int)) : List Nat := (P.map Prod.fst).filter (fun m => decide (m < 12))
theorem cms_app (P Q : List (Nat × Int)) : cms (P ++ Q) = cms P ++ cms Q := by
  unfold cms; rw [List.map_append, List.filter_append]
theorem cms_one {m : Nat} {z : Int} (h : m < 12) : cms [(m, z)] = [m] := by
  unfold cms; simp [h]
theorem cms_op {m : Nat} {z : Int} (h : ¬ m < 12) : cms [(m, z)] = [] := by
  unfold cms; simp; omega
theorem cms_n : ∀ n, cms (List.replicate n ((12, 0) : Nat × Int)) = []
  | 0 => rfl
  | n + 1 => by
    rw [List.replicate_succ, show ((12, 0) : Nat × Int) :: List.replicate n (12, 0) = [(12, 0)] ++ List.replicate n (12, 0) from rfl, cms_app, cms_n n, cms_op (by omega)]
    rfl
def ntl (n : Nat) : List (Nat × Int) := if n % 2 = 1 then [(12, 0)] else []
def adl (f : Nat) : List (Nat × Int) := if f = 0 then [] else [(13, 0)]
def orl (t : Nat) : List (Nat × Int) := if t = 0 then [] else [(14, 0)]
theorem run_nn (g : Nat → Int → Bool) (st : List Bool) : run g [(12, 0), (12, 0)] st = st := by
  cases st with
  | nil => rfl
  | cons b r => show (!(!b)) :: r = b :: r; rw [Bool.not_not]
theorem run_ntl (g : Nat → Int → Bool) : ∀ (n : Nat) (st : List Bool), run g (List.replicate n (12, 0)) st = run g (ntl n) st
  | 0, st => rfl
  | 1, st => rfl
  | n + 2, st => by
    have e : List.replicate (n + 2) ((12, 0) : Nat × Int) = [(12, 0), (12, 0)] ++ List.replicate n (12, 0) := by
      rw [List.replicate_succ, List.replicate_succ]; rfl
    rw [e, run_app, run_nn, run_ntl g n st]
    unfold ntl
    rw [show (n + 2) % 2 = n % 2 by omega]
theorem ntl_len (n : Nat) : (ntl n).length ≤ n := by
  unfold ntl
  split
  · show 1 ≤ n; omega
  · exact Nat.zero_le n
/-- P does what Q does, with comparisons c, heights h -/
def HE (P Q : List (Nat × Int)) (c h : Nat) : Prop := (∀ g st, run g P st = run g Q st) ∧ cms P = cms Q ∧ (cms P).length = c ∧ okt 24 P 0 h ∧ okt 81 Q 0 h ∧ h ≤ c ∧ P.length ≤ Q.length
theorem HE.nil : HE [] [] 0 0 := ⟨fun _ _ => rfl, rfl, rfl, rfl, rfl, Nat.le_refl 0, Nat.le_refl 0⟩
theorem HE.cmp {P Q : List (Nat × Int)} {c h : Nat} (H : HE P Q c h) {m : Nat} (z : Int) (hm : m < 12) (hc : c < 24) : HE (P ++ [(m, z)]) (Q ++ [(m, z)]) (c + 1) (h + 1) := by
  obtain ⟨h1, h2, h3, h4, h5, h6, h7⟩ := H
  refine ⟨fun g st => by rw [run_app, run_app, h1], by rw [cms_app, cms_app, h2], ?_, okt_app (okt_c hm (by omega)) h4, okt_app (okt_c hm (by omega)) h5, by omega, ?_⟩
  · rw [cms_app, List.length_append, h3, cms_one hm]; rfl
  · rw [List.length_append, List.length_append]
    show P.length + 1 ≤ Q.length + 1
    omega
theorem HE.nots {P Q : List (Nat × Int)} {c h : Nat} (H : HE P Q c h) (n : Nat) (h0 : 1 ≤ h) (hc : c ≤ 24) : HE (P ++ ntl n) (Q ++ List.replicate n (12, 0)) c h := by
  obtain ⟨h1, h2, h3, h4, h5, h6, h7⟩ := H
  have e : cms (ntl n) = [] := by
    unfold ntl
    split
    · exact cms_op (by omega)
    · rfl
  refine ⟨fun g st => by rw [run_app, run_app, h1, run_ntl], by rw [cms_app, cms_app, h2, e, cms_n], ?_, okt_app ?_ h4, okt_app (okt_n h0 (by omega) n) h5, h6, ?_⟩
  · rw [cms_app, List.length_append, h3, e]; rfl
  · unfold ntl
    split
    · exact okt_n h0 (by omega) 1
    · rfl
  · rw [List.length_append, List.length_append, List.length_replicate]
    have := ntl_len n
    omega
theorem HE.bin {P Q : List (Nat × Int)} {c h : Nat} (H : HE P Q c h) {m : Nat} (hm : m = 13 ∨ m = 14) (h0 : 2 ≤ h) (hc : c ≤ 24) : HE (P ++ [(m, 0)]) (Q ++ [(m, 0)]) c (h - 1) := by
  obtain ⟨h1, h2, h3, h4, h5, h6, h7⟩ := H
  refine ⟨fun g st => by rw [run_app, run_app, h1], by rw [cms_app, cms_app, h2], ?_, okt_app (okt_b hm h0 (by omega)) h4, okt_app (okt_b hm h0 (by omega)) h5, by omega, ?_⟩
  · rw [cms_app, List.length_append, h3, cms_op (by omega)]; rfl
  · rw [List.length_append, List.length_append]
    show P.length + 1 ≤ Q.length + 1
    omega
def b1 (x : Nat) : Nat := if x = 0 then 0 else 1
theorem HE.ands {P Q : List (Nat × Int)} {c h f : Nat} (H : HE P Q c (h + b1 f + 1)) (h0 : c ≤ 24) : HE (P ++ adl f) (Q ++ adl f) c (h + 1) := by
  unfold adl
  by_cases e : f = 0
  · rw [if_pos e, List.append_nil, List.append_nil]
    unfold b1 at H; rw [if_pos e] at H; exact H
  · rw [if_neg e]
    unfold b1 at H; rw [if_neg e] at H
    exact H.bin (.inl rfl) (by omega) h0
theorem HE.ors {P Q : List (Nat × Int)} {c h t : Nat} (H : HE P Q c (h + b1 t + 1)) (h0 : c ≤ 24) : HE (P ++ orl t) (Q ++ orl t) c (h + 1) := by
  unfold orl
  by_cases e : t = 0
  · rw [if_pos e, List.append_nil, List.append_nil]
    unfold b1 at H; rw [if_pos e] at H; exact H
  · rw [if_neg e]
    unfold b1 at H; rw [if_neg e] at H
    exact H.bin (.inr rfl) (by omega) h0
/-! levels: 0 nots, 1 factors, 2 deepest factor, 3 terms, 4 deepest term -/
def opL (L : Nat → Nat → Int32) (g : Nat) : Nat → Nat → Int32 := fun j i => if i = g then nI 0 else L j i
def imx (a b : Int32) : Int32 := if a < b then b else a
def adF (L : Nat → Nat → Int32) (g : Nat) (d : Int32) : Nat → Nat → Int32 := fun j i => if i = g then (if j = 0 then nI 0 else if j = 1 then L 1 g + nI 1 else if j = 2 then imx (L 2 g) (d + L 0 g) else L j g) else L j i
def enT (L : Nat → Nat → Int32) (g : Nat) : Nat → Nat → Int32 := fun j i => if i = g then (if j = 1 ∨ j = 2 then nI 0 else if j = 3 then L 3 g + nI 1 else if j = 4 then imx (L 4 g) (if L 1 g ≤ nI 1 then L 2 g else L 2 g + nI 1) else L j g) else L j i
def nuL (L : Nat → Nat → Int32) (g : Nat) : Nat → Nat → Int32 := fun j i => if i = g ∧ j = 0 then L 0 g + nI 1 else L j i
def dpt (L : Nat → Nat → Int32) (g : Nat) : Int32 := if L 3 g ≤ nI 1 then L 4 g else L 4 g + nI 1
theorem opL_ne {L : Nat → Nat → Int32} {g i : Nat} (h : i ≠ g) (j : Nat) : opL L g j i = L j i := if_neg h
theorem opL_eq {L : Nat → Nat → Int32} {g : Nat} (j : Nat) : opL L g j g = nI 0 := if_pos rfl
theorem adF_ne {L : Nat → Nat → Int32} {g i : Nat} {d : Int32} (h : i ≠ g) (j : Nat) : adF L g d j i = L j i := if_neg h
theorem adF_0 {L : Nat → Nat → Int32} {g : Nat} {d : Int32} : adF L g d 0 g = nI 0 := by unfold adF; rw [if_pos rfl, if_pos rfl]
theorem adF_1 {L : Nat → Nat → Int32} {g : Nat} {d : Int32} : adF L g d 1 g = L 1 g + nI 1 := by unfold adF; rw [if_pos rfl, if_neg (by omega), if_pos rfl]
theorem adF_2 {L : Nat → Nat → Int32} {g : Nat} {d : Int32} : adF L g d 2 g = imx (L 2 g) (d + L 0 g) := by unfold adF; rw [if_pos rfl, if_neg (by omega), if_neg (by omega), if_pos rfl]
theorem adF_3 {L : Nat → Nat → Int32} {g j : Nat} {d : Int32} (h : 3 ≤ j) : adF L g d j g = L j g := by unfold adF; rw [if_pos rfl, if_neg (by omega), if_neg (by omega), if_neg (by omega)]
theorem enT_ne {L : Nat → Nat → Int32} {g i : Nat} (h : i ≠ g) (j : Nat) : enT L g j i = L j i := if_neg h
theorem enT_0 {L : Nat → Nat → Int32} {g : Nat} : enT L g 0 g = L 0 g := by unfold enT; rw [if_pos rfl, if_neg (by omega), if_neg (by omega), if_neg (by omega)]
theorem enT_1 {L : Nat → Nat → Int32} {g j : Nat} (h : j = 1 ∨ j = 2) : enT L g j g = nI 0 := by unfold enT; rw [if_pos rfl, if_pos h]
theorem enT_3 {L : Nat → Nat → Int32} {g : Nat} : enT L g 3 g = L 3 g + nI 1 := by unfold enT; rw [if_pos rfl, if_neg (by omega), if_pos rfl]
theorem enT_4 {L : Nat → Nat → Int32} {g : Nat} : enT L g 4 g = imx (L 4 g) (if L 1 g ≤ nI 1 then L 2 g else L 2 g + nI 1) := by unfold enT; rw [if_pos rfl, if_neg (by omega), if_neg (by omega), if_pos rfl]
theorem nuL_ne {L : Nat → Nat → Int32} {g i j : Nat} (h : i ≠ g ∨ j ≠ 0) : nuL L g j i = L j i := if_neg (by omega)
theorem nuL_eq {L : Nat → Nat → Int32} {g : Nat} : nuL L g 0 g = L 0 g + nI 1 := if_pos ⟨rfl, rfl⟩
/-- what waits on a level, on all below -/
def wl (t f n : Nat) : List Nat := (if t = 0 then [] else [14]) ++ ((if f = 0 then [] else [13]) ++ List.replicate n 12)
def wb (L : Nat → Nat → Int32) : Nat → List Nat
  | 0 => []
  | g + 1 => (wb L g ++ wl (nat (L 3 g)) (nat (L 1 g)) (nat (L 0 g))) ++ [15]
def hd (L : Nat → Nat → Int32) : Nat → Nat
  | 0 => 0
  | g + 1 => hd L g + b1 (nat (L 1 g)) + b1 (nat (L 3 g))
theorem wb_congr {L K : Nat → Nat → Int32} : ∀ g, (∀ i j, i < g → L j i = K j i) → wb L g = wb K g
  | 0, _ => rfl
  | g + 1, h => by
    unfold wb
    rw [wb_congr g (fun i j hi => h i j (by omega)), h g 3 (by omega), h g 1 (by omega), h g 0 (by omega)]
theorem hd_congr {L K : Nat → Nat → Int32} : ∀ g, (∀ i j, i < g → L j i = K j i) → hd L g = hd K g
  | 0, _ => rfl
  | g + 1, h => by
    unfold hd
    rw [hd_congr g (fun i j hi => h i j (by omega)), h g 3 (by omega), h g 1 (by omega)]
/-- the last one of what waits below is a bracket -/
theorem wb_last (L : Nat → Nat → Int32) (g : Nat) : wb L g = [] ∨ ∃ V, wb L g = V ++ [15] := by
  cases g with
  | zero => exact .inl rfl
  | succ g => exact .inr ⟨_, rfl⟩
theorem wb_len (L : Nat → Nat → Int32) : ∀ g, g ≤ (wb L g).length
  | 0 => Nat.le_refl 0
  | g + 1 => by
    unfold wb
    rw [List.length_append, List.length_append]
    have := wb_len L g
    show g + 1 ≤ _ + _ + 1
    omega
theorem wl_len (t f n : Nat) : (wl t f n).length = b1 t + b1 f + n := by
  unfold wl b1
  rw [List.length_append, List.length_append, List.length_replicate]
  by_cases h1 : t = 0
  · rw [if_pos h1, if_pos h1]
    by_cases h2 : f = 0
    · rw [if_pos h2, if_pos h2]; simp
    · rw [if_neg h2, if_neg h2]; simp
  · rw [if_neg h1, if_neg h1]
    by_cases h2 : f = 0
    · rw [if_pos h2, if_pos h2]; simp
    · rw [if_neg h2, if_neg h2]; simp; omega
/-- the letters' own count of levels -/
def dst (c : Nat) (x : Nat × (Nat → Nat → Int32)) : Nat × (Nat → Nat → Int32) := if c = 33 then (x.1, nuL x.2 x.1) else if c = 40 then (x.1 + 1, opL x.2 (x.1 + 1)) else if c = 41 then (x.1 - 1, adF (enT x.2 x.1) (x.1 - 1) (dpt (enT x.2 x.1) x.1)) else if c = 83 ∨ c = 87 ∨ c = 82 ∨ c = 84 then (x.1, adF x.2 x.1 (nI 1)) else if c = 124 then (x.1, enT x.2 x.1) else x
def dpr (pg : Nat → Nat) (i0 : Nat) : Nat → Nat × (Nat → Nat → Int32)
  | 0 => (0, fun _ _ => nI 0)
  | m + 1 => dst (pg (i0 + m)) (dpr pg i0 m)
/-- so far the letters are a condition's, and its levels stay in the rows -/
def dsf (pg : Nat → Nat) (i0 m : Nat) : Prop := ∀ q, q < m → pg (i0 + q) ≠ 58 ∧ pg (i0 + q) ≠ 64 ∧ (dpr pg i0 q).1 < 80 ∧ (pg (i0 + q) = 41 → 0 < (dpr pg i0 q).1)
theorem dsf_s {pg : Nat → Nat} {i0 m : Nat} (h : dsf pg i0 m) (h1 : pg (i0 + m) ≠ 58 ∧ pg (i0 + m) ≠ 64 ∧ (dpr pg i0 m).1 < 80 ∧ (pg (i0 + m) = 41 → 0 < (dpr pg i0 m).1)) : dsf pg i0 (m + 1) := by
  intro q hq
  by_cases e : q = m
  · subst e; exact h1
  · exact h q (by omega)
theorem dpr_s {pg : Nat → Nat} {i0 m g : Nat} {L : Nat → Nat → Int32} (h : dpr pg i0 m = (g, L)) : dpr pg i0 (m + 1) = dst (pg (i0 + m)) (g, L) := by
  show dst _ (dpr pg i0 m) = _
  rw [h]
theorem dst_plain {c : Nat} {x : Nat × (Nat → Nat → Int32)} (h : c ≠ 33 ∧ c ≠ 40 ∧ c ≠ 41 ∧ c ≠ 83 ∧ c ≠ 87 ∧ c ≠ 82 ∧ c ≠ 84 ∧ c ≠ 124) : dst c x = x := by
  unfold dst
  rw [if_neg h.1, if_neg h.2.1, if_neg h.2.2.1, if_neg (by omega), if_neg (by omega)]
