/-! FROM THE ENTRY TO THE END -/
def cAo (c0 c1 c2 c3 c4 c5 c6 c7 c8 : ClassId) (k : Nat) : ClassId := if k = 100 then c0 else if k = 101 then c1 else if k = 102 then c2 else if k = 103 then c3 else if k = 104 then c4 else if k = 105 then c5 else if k = 106 then c6 else if k = 107 then c7 else c8
theorem KT_lo : ∀ a, a < 16 → KTab.getD a 0 = 0 ∨ 110 ≤ KTab.getD a 0 := by decide +kernel
theorem KT_0 : ∀ a, a < 16 → 11 ≤ a → KTab.getD a 0 = 0 := by decide +kernel
theorem wk00 (L : Nat) (xs : Nat → Int32) (a : Nat) : wk (w00 L xs) a = if a < 16 then KTab.getD a 0 else 0 := rfl
theorem cok_i {G : AG} {U : State} {w : AW} {H : Heap} {a : Nat} (h : wk w a = 110) (g : va_T .int (ad G a) (wn w a) (fun j => .int (wi w a j)) (fun q => G.2.2.2.1 ≤ q) U H) : cok G U w H a := by
  unfold cok
  rw [h, if_neg (by omega), if_neg (by omega), if_pos (by omega), if_pos rfl]
  exact g
theorem cok_b {G : AG} {U : State} {w : AW} {H : Heap} {a : Nat} (h : wk w a = 111) (g : va_T .byte (ad G a) (wn w a) (fun j => .int (wi w a j)) (fun q => G.2.2.2.1 ≤ q) U H) : cok G U w H a := by
  unfold cok
  rw [h, if_neg (by omega), if_neg (by omega), if_pos (by omega), if_neg (by omega)]
  exact g
theorem cok_o {G : AG} {U : State} {w : AW} {H : Heap} {a : Nat} (h : wk w a = 112) (g : va_O "java/lang/String" (ad G a) (fun q => G.2.2.2.1 ≤ q) U H ∧ va_OF "java/lang/String" "coder" "B" (.int 0) (ad G a) (fun q => G.2.2.2.1 ≤ q) U H ∧ va_OF "java/lang/String" "value" "[B" (rv G (vr (wr w a 0))) (ad G a) (fun q => G.2.2.2.1 ≤ q) U H) : cok G U w H a := by
  unfold cok
  rw [h, if_neg (by omega), if_neg (by omega), if_neg (by omega)]
  exact g
/-- from the entry, for every script of at most 3072 ints, the law comes to its end with true -/
theorem whole_start {p : Program} {e : Env} {s : State} {m : MethodId} {below : List Frame} {meth : Method} {c : Code} (l : Launch) (hflags : l.flags = flags0) {b L : Nat} {xs : Nat → Int32} (hL : L ≤ 3072) (C0 : lw_At p s m meth c b L xs) : W p l e room_1 s m #[Value.ref b] below meth c s.heap [] 0 0 (lw_Z below #[Value.ref b] s) (entryFrame m ([Value.ref b] : List Value).toArray 4) := by
  obtain ⟨hx, hb, hr, hml, hown, hts, hX, hbl, hlocks, hgv⟩ := id C0
  have hs := flat_of_before _ hgv
  have hn : ∀ (i : Nat) (c : Cond), NLw[i]? = some c → c.before #[Value.ref b] s = true := fun i c h => hs c (NLw_in c (List.mem_of_getElem? h))
  have hA : ∀ a : Nat, a < s.heap.size → ¬ (fun q => s.heap.size ≤ q) a := fun a h => Nat.not_le.mpr h
  obtain ⟨t2, e2, T2⟩ := st_2 hn
  obtain ⟨t3, e3, T3⟩ := st_3 hn
  obtain ⟨t4, e4, T4⟩ := st_4 hn
  obtain ⟨t5, e5, T5⟩ := st_5 hn
  obtain ⟨t6, e6, T6⟩ := st_6 hn
  obtain ⟨t9, e9, T9⟩ := st_9 hn
  obtain ⟨t10, e10, T10⟩ := st_10 hn
  obtain ⟨a7, v7, o7, f7, g7⟩ := so_7 hn
  obtain ⟨a8, v8, o8, f8, g8⟩ := so_8 hn
  have hk := cls_k hts
  obtain ⟨dC, dI, hKc⟩ : ∃ (dC : Nat → ClassId) (dI : Nat → Nat → Nat), ∀ (k : Nat) (q : vw_C), kc[k]? = some q → u_Kn s q.1 q.2.1 q.2.2 (dC k) (dI k) :=
    ⟨fun k => Classical.choose (hk k), fun k => Classical.choose (Classical.choose_spec (hk k)), fun k q hq => Classical.choose_spec (Classical.choose_spec (hk k)) q hq⟩
  obtain ⟨c0, q0⟩ := arr_p (ty := .int) (hts _ (List.mem_filter.mp aw_int).1) (fun D h => by cases h)
  obtain ⟨c1, q1⟩ := arr_p (ty := .long) (hts _ (List.mem_filter.mp aw_long).1) (fun D h => by cases h)
  obtain ⟨c2, q2⟩ := arr_p (ty := .byte) (hts _ (List.mem_filter.mp aw_byte).1) (fun D h => by cases h)
  obtain ⟨c3, q3⟩ := arr_p (ty := .short) (hts _ (List.mem_filter.mp aw_short).1) (fun D h => by cases h)
  obtain ⟨c4, q4⟩ := arr_p (ty := .boolean) (hts _ (List.mem_filter.mp aw_boolean).1) (fun D h => by cases h)
  obtain ⟨c5, q5⟩ := arr_o (hts _ ao_Dy)
  obtain ⟨c6, q6⟩ := arr_o (hts _ ao_Di)
  obtain ⟨c7, q7⟩ := arr_o (hts _ ao_Sa)
  obtain ⟨c8, q8⟩ := arr_o (hts _ ao_Al)
  have hK : Kn (Gof dC dI (cAo c0 c1 c2 c3 c4 c5 c6 c7 c8) s b t2 t3 t4 t5 t6 a7 a8 t9 t10) s := by
    refine ⟨⟨hKc, ?_⟩, ?_, vk_R.of (A := #[Value.ref b]) (hts _ (List.mem_of_getElem? (i := 754) (by decide +kernel))) v7, vk_R.of (A := #[Value.ref b]) (hts _ (List.mem_of_getElem? (i := 849) (by decide +kernel))) v8, fun a i x h hm => va_Nw.of rfl (hts _ hm), fun C hm => va_AO.of (hts _ hm)⟩
    · intro k q hq
      match k, hq with
      | 0, hq => cases hq; exact q0
      | 1, hq => cases hq; exact q1
      | 2, hq => cases hq; exact q2
      | 3, hq => cases hq; exact q3
      | 4, hq => cases hq; exact q4
      | 5, hq => cases hq; exact q5
      | 6, hq => cases hq; exact q6
      | 7, hq => cases hq; exact q7
      | 8, hq => cases hq; exact q8
      | k + 9, hq => simp [atys] at hq
    · intro q hq
      have hq' : q ∈ [("RedSky$Calendar", "LENGTHS", "[I", vr 2), ("RedSky$Diary", "LOWEST", "[I", vr 3), ("RedSky$Diary", "HIGHEST", "[I", vr 4), ("RedSky$Diary", "SHIFTS", "[I", vr 5), ("RedSky$Diary", "MASKS", "[I", vr 6), ("java/lang/String", "COMPACT_STRINGS", "Z", vi 1)] := hq
      simp only [List.mem_cons, List.not_mem_nil, or_false] at hq'
      rcases hq' with h | h | h | h | h | h <;> subst h
      · exact va_Zref (hts _ (List.mem_of_getElem? (i := 586) (by decide +kernel))) (hts _ (List.mem_of_getElem? (i := 90) (by decide +kernel))) e2 hA
      · exact va_Zref (hts _ (List.mem_of_getElem? (i := 663) (by decide +kernel))) (hts _ (List.mem_of_getElem? (i := 100) (by decide +kernel))) e3 hA
      · exact va_Zref (hts _ (List.mem_of_getElem? (i := 683) (by decide +kernel))) (hts _ (List.mem_of_getElem? (i := 100) (by decide +kernel))) e4 hA
      · exact va_Zref (hts _ (List.mem_of_getElem? (i := 667) (by decide +kernel))) (hts _ (List.mem_of_getElem? (i := 100) (by decide +kernel))) e5 hA
      · exact va_Zref (hts _ (List.mem_of_getElem? (i := 665) (by decide +kernel))) (hts _ (List.mem_of_getElem? (i := 100) (by decide +kernel))) e6 hA
      · exact va_Zof (hts _ (List.mem_of_getElem? (i := 768) (by decide +kernel))) (hts _ (List.mem_of_getElem? (i := 103) (by decide +kernel))) (va_eqt (hn 53 _ rfl)) hA
  obtain ⟨G, hG⟩ : ∃ G, Gof dC dI (cAo c0 c1 c2 c3 c4 c5 c6 c7 c8) s b t2 t3 t4 t5 t6 a7 a8 t9 t10 = G := ⟨_, rfl⟩
  have hS : Sm G s (w00 L xs) s.heap := by
    refine ⟨Nat.le_refl 16, by rw [← hG]; rfl, by rw [← hG]; rfl, fun q hq => by rw [← hG]; rfl, fun a ha => ?_, fun a ha h110 => ?_, rfl⟩
    · rw [wk00] at ha
      by_cases h16 : a < 16
      · rw [if_pos h16] at ha
        have h11 : a < 11 := by
          rcases Nat.lt_or_ge a 11 with q | q
          · exact q
          · exact absurd (KT_0 a h16 q) ha
        have : a = 0 ∨ a = 1 ∨ a = 2 ∨ a = 3 ∨ a = 4 ∨ a = 5 ∨ a = 6 ∨ a = 7 ∨ a = 8 ∨ a = 9 ∨ a = 10 := by omega
        rcases this with h | h | h | h | h | h | h | h | h | h | h <;> subst h
        · exact absurd rfl ha
        · refine cok_i rfl ?_
          rw [← hG]
          obtain ⟨scr, x1, x2, x3, x4, x5⟩ := hX
          refine ⟨scr, x1, x2, x3, ?_, ?_, ?_, hA b hbl⟩
          · show L ≤ _; rw [x4]; exact Nat.le_refl L
          · show _ = Int32.ofNat L; rw [x4]
          · exact x5
        · refine cok_i rfl ?_
          rw [← hG]; exact T2
        · refine cok_i rfl ?_
          rw [← hG]; exact T3
        · refine cok_i rfl ?_
          rw [← hG]; exact T4
        · refine cok_i rfl ?_
          rw [← hG]; exact T5
        · refine cok_i rfl ?_
          rw [← hG]; exact T6
        · refine cok_o rfl ?_
          rw [← hG]; exact ⟨o7, f7, g7 _ e9⟩
        · refine cok_o rfl ?_
          rw [← hG]; exact ⟨o8, f8, g8 _ e10⟩
        · refine cok_b rfl ?_
          rw [← hG]; exact T9
        · refine cok_b rfl ?_
          rw [← hG]; exact T10
      · rw [if_neg h16] at ha; exact absurd rfl ha
    · exfalso
      rw [wk00] at ha h110
      by_cases h16 : a < 16
      · rw [if_pos h16] at ha h110
        rcases KT_lo a h16 with q | q
        · exact ha q
        · omega
      · rw [if_neg h16] at ha; exact ha rfl
  have hl := lv_entry ([.ref b]) (n := 4) (Nat.le_of_ble_eq_true rfl)
  rw [lg_entry_eq]
  generalize (lg_sl ([.ref b]) ++ List.replicate (4 - (lg_sl ([.ref b])).length) Slot.unset).toArray = ls at hl ⊢
  have hl1 : lv_has ls 4 [(0, .ref b)] := hl
  have hl2 : lv_has ls 4 (rl G [(0, vr 1)]) := by rw [← hG]; exact hl1
  obtain ⟨v, hv⟩ := pure_law hL xs
  have hXo : XOK (p, l, e, room_1, s, m, #[Value.ref b], below, meth, c, lw_Z below #[Value.ref b] s, G) b_Lw_law "RedSkyLaw" 4 := ⟨hx, hb, hml, hown, fun w hw => hts w (List.mem_filter.mp hw).1, by rw [← hG]; exact hK, hlocks⟩
  have hXl : XL (p, l, e, room_1, s, m, #[Value.ref b], below, meth, c, lw_Z below #[Value.ref b] s, G) ((nI 1, v) : Int32 × AW).1 := ⟨rfl, rfl, hr, ⟨b, rfl⟩, by rw [← hG]; rfl⟩
  have R := P_Lw_law_0 (l := l) (G := G) hXo ⟨rfl, rfl, rfl⟩ hXl 0 0 1 (w00 L xs) hv rfl rfl
  exact R s.heap [] ls hS (fun q hq => absurd hq List.not_mem_nil) hl2
