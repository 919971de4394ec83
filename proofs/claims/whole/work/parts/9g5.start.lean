/-! What stays of a state all along: at the start -/
def jT1 : Jvm.Cond := Jvm.Cond.and given_1 narrow_1
def jtm : Nat → Jvm.Term := fun i => ([.string "WordPlaces$RuleReader" 69, .string "WordPlaces$RuleReader" 101, .string "WordPlaces$RuleReader" 71, .string "WordPlaces$RuleReader" 73, .string "WordPlaces$RuleReader" 125, .string "WordPlaces$RuleReader" 59, .string "WordPlaces$Asker" 118, .string "WordPlaces$Asker" 124, .string "WordPlaces$Asker" 126, .string "WordPlaces$Asker" 128, .string "WordPlaces$Asker" 130, .string "WordPlaces$Asker" 132] : List Jvm.Term).getD i (.int 0)
def jln : List Nat := jtxs.map List.length
def jby : List (List Int32) := jtxs.map (fun l => l.map (fun c => Int32.ofNat c))
set_option maxRecDepth 100000 in
set_option maxHeartbeats 4000000 in
theorem tx_ex : ∀ i, i < 12 → Jvm.Cond.exactly (jtm i) "java/lang/String" ∈ flatC jT1 := by decide +kernel
set_option maxRecDepth 100000 in
set_option maxHeartbeats 4000000 in
theorem tx_co : ∀ i, i < 12 → Jvm.Cond.eq (.field (jtm i) "java/lang/String" "coder" "B") (.int 0) ∈ flatC jT1 := by decide +kernel
set_option maxRecDepth 100000 in
set_option maxHeartbeats 4000000 in
theorem tx_ar : ∀ i, i < 12 → Jvm.Cond.arrayOf (.field (jtm i) "java/lang/String" "value" "[B") .byte ∈ flatC jT1 := by decide +kernel
set_option maxRecDepth 100000 in
set_option maxHeartbeats 4000000 in
theorem tx_le : ∀ i, i < 12 → Jvm.Cond.eq (.length (.field (jtm i) "java/lang/String" "value" "[B")) (.int (Int32.ofNat (jln.getD i 0))) ∈ flatC jT1 := by decide +kernel
set_option maxRecDepth 100000 in
set_option maxHeartbeats 4000000 in
theorem tx_el : ∀ i, i < 12 → ∀ j, j < jln.getD i 0 → Jvm.Cond.eq (.elem (.field (jtm i) "java/lang/String" "value" "[B") (.int (Int32.ofNat j))) (.int ((jby.getD i []).getD j 0)) ∈ flatC jT1 := by decide +kernel
set_option maxRecDepth 100000 in
set_option maxHeartbeats 4000000 in
theorem tx_ne_0 : ∀ j, j < 12 → 0 < j → Jvm.Cond.not (.eq (jtm 0) (jtm j)) ∈ flatC jT1 := by decide +kernel
set_option maxRecDepth 100000 in
set_option maxHeartbeats 4000000 in
theorem tx_ne_1 : ∀ j, j < 12 → 1 < j → Jvm.Cond.not (.eq (jtm 1) (jtm j)) ∈ flatC jT1 := by decide +kernel
set_option maxRecDepth 100000 in
set_option maxHeartbeats 4000000 in
theorem tx_ne_2 : ∀ j, j < 12 → 2 < j → Jvm.Cond.not (.eq (jtm 2) (jtm j)) ∈ flatC jT1 := by decide +kernel
set_option maxRecDepth 100000 in
set_option maxHeartbeats 4000000 in
theorem tx_ne_3 : ∀ j, j < 12 → 3 < j → Jvm.Cond.not (.eq (jtm 3) (jtm j)) ∈ flatC jT1 := by decide +kernel
set_option maxRecDepth 100000 in
set_option maxHeartbeats 4000000 in
theorem tx_ne_4 : ∀ j, j < 12 → 4 < j → Jvm.Cond.not (.eq (jtm 4) (jtm j)) ∈ flatC jT1 := by decide +kernel
set_option maxRecDepth 100000 in
set_option maxHeartbeats 4000000 in
theorem tx_ne_5 : ∀ j, j < 12 → 5 < j → Jvm.Cond.not (.eq (jtm 5) (jtm j)) ∈ flatC jT1 := by decide +kernel
set_option maxRecDepth 100000 in
set_option maxHeartbeats 4000000 in
theorem tx_ne_6 : ∀ j, j < 12 → 6 < j → Jvm.Cond.not (.eq (jtm 6) (jtm j)) ∈ flatC jT1 := by decide +kernel
set_option maxRecDepth 100000 in
set_option maxHeartbeats 4000000 in
theorem tx_ne_7 : ∀ j, j < 12 → 7 < j → Jvm.Cond.not (.eq (jtm 7) (jtm j)) ∈ flatC jT1 := by decide +kernel
set_option maxRecDepth 100000 in
set_option maxHeartbeats 4000000 in
theorem tx_ne_8 : ∀ j, j < 12 → 8 < j → Jvm.Cond.not (.eq (jtm 8) (jtm j)) ∈ flatC jT1 := by decide +kernel
set_option maxRecDepth 100000 in
set_option maxHeartbeats 4000000 in
theorem tx_ne_9 : ∀ j, j < 12 → 9 < j → Jvm.Cond.not (.eq (jtm 9) (jtm j)) ∈ flatC jT1 := by decide +kernel
set_option maxRecDepth 100000 in
set_option maxHeartbeats 4000000 in
theorem tx_ne_10 : ∀ j, j < 12 → 10 < j → Jvm.Cond.not (.eq (jtm 10) (jtm j)) ∈ flatC jT1 := by decide +kernel
theorem tx_ne : ∀ i, i < 12 → ∀ j, j < 12 → i < j → Jvm.Cond.not (.eq (jtm i) (jtm j)) ∈ flatC jT1
  | 0, _ => tx_ne_0
  | 1, _ => tx_ne_1
  | 2, _ => tx_ne_2
  | 3, _ => tx_ne_3
  | 4, _ => tx_ne_4
  | 5, _ => tx_ne_5
  | 6, _ => tx_ne_6
  | 7, _ => tx_ne_7
  | 8, _ => tx_ne_8
  | 9, _ => tx_ne_9
  | 10, _ => tx_ne_10
  | i + 11, h => fun j h1 h2 => absurd h1 (by omega)
set_option maxRecDepth 100000 in
set_option maxHeartbeats 4000000 in
theorem tx_all : ∀ q ∈ jtx, Jvm.Cond.stringRef q.1 q.2.1 (jtex q.2.2) ∈ lw_tbl ∧ q.2.2 < 12 ∧ Jvm.Cond.exactly (.string q.1 q.2.1) "java/lang/String" ∈ flatC jT1 ∧ (jtm q.2.2 = .string q.1 q.2.1 ∨ Jvm.Cond.eq (jtm q.2.2) (.string q.1 q.2.1) ∈ flatC jT1 ∨ Jvm.Cond.eq (.string q.1 q.2.1) (jtm q.2.2) ∈ flatC jT1) := by decide +kernel
set_option maxRecDepth 100000 in
set_option maxHeartbeats 4000000 in
theorem nests_all : ∀ q ∈ jnests, Jvm.Cond.methodLinkNest q.1 q.2.1 q.2.2.1 q.2.2.2 ∈ lw_tbl := by decide +kernel
set_option maxRecDepth 100000 in
set_option maxHeartbeats 4000000 in
theorem made_all : ∀ r ∈ jcl, Jvm.Cond.instantiable r.1 r.2.2 ∈ lw_tbl := by decide +kernel
set_option maxRecDepth 100000 in
set_option maxHeartbeats 4000000 in
theorem st_all : Jvm.Cond.eq (.static "java/lang/String" "COMPACT_STRINGS" "Z") (.int 1) ∈ flatC jT1 ∧ Jvm.Cond.isRef (.static "jdk/internal/util/Preconditions" "SIOOBE_FORMATTER" "Ljava/util/function/BiFunction;") ∈ flatC jT1 := by decide +kernel
theorem evR {args : Array Value} {s : State} {t u : Jvm.Term} {a b : Nat} (h : (Jvm.Cond.eq t u).before args s = true) (ht : t.eval args s none [] s = some (.ref a)) (hu : u.eval args s none [] s = some (.ref b)) : a = b := by
  simp [Cond.before, Cond.holds, Cond.value, ht, hu] at h
  exact h
theorem start_K {args : Array Value} {s : State} (hts : ∀ w ∈ lw_tbl, w.before args s = true) : ∃ (D : va_G) (cA : Nat → ClassId), va_K D jcl (jtys cA) s := by
  have h0 : ∀ k : Nat, ∃ q : ClassId × (Nat → Nat), ∀ r, jcl[k]? = some r → u_Kn s r.1 r.2.1 r.2.2 q.1 q.2 := by
    intro k
    cases h : jcl[k]? with
    | none => exact ⟨(0, fun _ => 0), fun r h2 => by cases h2⟩
    | some r =>
      obtain ⟨c, i, hc⟩ := u_known (C := r.1) (T := r.2.1) (N := r.2.2) (n := r.2.2) hts (fun w hw => (List.mem_filter.mp (jcl_ws h w hw)).1) (hts _ (made_all r (List.mem_of_getElem? h)))
      exact ⟨(c, i), fun r2 h2 => by cases h2; exact hc⟩
  obtain ⟨f, hf⟩ := Classical.axiomOfChoice h0
  obtain ⟨c1, k1, m1, a1, b1, d1⟩ := Cond.arrayClass_spec (hts (.arrayClass .int) (jtbl_in 1 _ (List.mem_of_getElem? (i := 137) (by decide +kernel))))
  obtain ⟨c2, k2, m2, a2, b2, d2⟩ := Cond.arrayClass_spec (hts (.arrayClass .byte) (jtbl_in 1 _ (List.mem_of_getElem? (i := 68) (by decide +kernel))))
  obtain ⟨c3, k3, m3, a3, b3, d3⟩ := Cond.arrayClass_spec (hts (.arrayClass .boolean) (jtbl_in 1 _ (List.mem_of_getElem? (i := 210) (by decide +kernel))))
  obtain ⟨c4, k4, m4, a4, b4, d4⟩ := Cond.arrayClass_spec (hts (.arrayClass .long) (jtbl_in 1 _ (List.mem_of_getElem? (i := 69) (by decide +kernel))))
  obtain ⟨m5, c5, k5, e5, -, b5, d5, a5⟩ := Cond.arrayOver_spec (hts (.arrayOver (.object "WordPlaces$Image")) (jtbl_in 1 _ (List.mem_of_getElem? (i := 166) (by decide +kernel))))
  obtain ⟨m6, c6, k6, e6, b6, d6, a6⟩ := Cond.arrayOver_specA (hts (.arrayOver (.array .byte)) (jtbl_in 2 _ (List.mem_of_getElem? (i := 153) (by decide +kernel))))
  obtain ⟨m7, c7, k7, e7, b7, d7, a7⟩ := Cond.arrayOver_specA (hts (.arrayOver (.array .boolean)) (jtbl_in 6 _ (List.mem_of_getElem? (i := 131) (by decide +kernel))))
  refine ⟨(fun k => (f k).1, fun k => (f k).2), fun i => match i with
    | 1 => c1
    | 2 => c2
    | 3 => c3
    | 4 => c4
    | 5 => c5
    | 6 => c6
    | _ => c7, fun c q hq => hf c q hq, fun k q hq => ?_⟩
  match k, hq with
  | 0, hq => cases hq; exact ⟨fun n z => ⟨(fun k h => by cases h), k1, b1, m1, d1⟩, a1⟩
  | 1, hq => cases hq; exact ⟨fun n z => ⟨(fun k h => by cases h), k2, b2, m2, d2⟩, a2⟩
  | 2, hq => cases hq; exact ⟨fun n z => ⟨(fun k h => by cases h), k3, b3, m3, d3⟩, a3⟩
  | 3, hq => cases hq; exact ⟨fun n z => ⟨(fun k h => by cases h), k4, b4, m4, d4⟩, a4⟩
  | 4, hq => cases hq; exact ⟨fun n z => ⟨(fun k h => by cases h), k5, b5, m5, d5⟩, k5, m5, b5, d5, e5, a5⟩
  | 5, hq => cases hq; exact ⟨fun n z => ⟨(fun k h => by cases h), k6, b6, m6, d6⟩, a6⟩
  | 6, hq => cases hq; exact ⟨fun n z => ⟨(fun k h => by cases h), k7, b7, m7, d7⟩, a7⟩
  | k + 7, hq => simp [jtys] at hq
theorem start_stat {args : Array Value} {s : State} (b : Nat) (hts : ∀ w ∈ lw_tbl, w.before args s = true) (hgv : (Jvm.Cond.and given_1 narrow_1).before args s = true) : ∃ (D : va_G) (cA : Nat → ClassId) (adK adV : Nat → Nat), jstat (s.heap.size - 1, D, cA, adK, adV, b) s s.heap := by
  have hs := flat_of_before _ hgv
  have hA : ∀ a : Nat, a < s.heap.size → ¬ (fun q : Nat => s.heap.size - 1 < q) a := fun a h => by
    show ¬ (s.heap.size - 1 < a)
    omega
  obtain ⟨D, cA, hK⟩ := start_K hts
  obtain ⟨adK, adV, hT, hev⟩ := vk_Sof (args := args) (s := s) (N := 12) (tm := jtm) (len := jln) (byt := jby) (A := fun q : Nat => s.heap.size - 1 < q) (by decide) (fun i hi => hs _ (tx_ex i hi)) (fun i hi => hs _ (tx_co i hi)) (fun i hi => hs _ (tx_ar i hi)) (fun i hi => hs _ (tx_le i hi)) (fun i hi j hj => hs _ (tx_el i hi j hj)) (fun i j hi hj h => (Nat.lt_or_gt_of_ne h).imp (fun h => hs _ (tx_ne i hi j hj h)) (fun h => hs _ (tx_ne j hj i hi h))) hA
  refine ⟨D, cA, adK, adV, hK, ⟨va_AO.of (hts (.arrayOver (.object "WordPlaces$Image")) (jtbl_in 1 _ (List.mem_of_getElem? (i := 166) (by decide +kernel)))), hts (.arrayOver (.array .byte)) (jtbl_in 2 _ (List.mem_of_getElem? (i := 153) (by decide +kernel))), hts (.arrayOver (.array .boolean)) (jtbl_in 6 _ (List.mem_of_getElem? (i := 131) (by decide +kernel)))⟩, fun q hq => ?_, hT, ?_, ?_, fun q hq => va_Nw.of rfl (hts _ (nests_all q hq))⟩
  · obtain ⟨h1, h2, h3, h4⟩ := tx_all q hq
    refine vk_R.of (A := args) (hts _ h1) ?_
    obtain ⟨a, c, cc, kk, g1, -⟩ := Cond.exactly_spec (args := args) (first := s) (o := none) (s := s) (idx := []) (hs _ h3)
    have g2 := hev q.2.2 h2
    show (Jvm.Term.string q.1 q.2.1).eval args s none [] s = some (.ref (adK q.2.2))
    rcases h4 with h4 | h4 | h4
    · rw [← h4]
      exact g2
    · rw [show adK q.2.2 = a from evR (hs _ h4) g2 g1]
      exact g1
    · rw [← show a = adK q.2.2 from evR (hs _ h4) g1 g2]
      exact g1
  · exact va_Zof (hts (.laysStatic "java/lang/String" "COMPACT_STRINGS" "Z") (jtbl_in 3 _ (List.mem_of_getElem? (i := 116) (by decide +kernel)))) (hts (.initialized "java/lang/String") (jtbl_in 1 _ (List.mem_of_getElem? (i := 16) (by decide +kernel)))) (va_eqi (hs _ st_all.1)) hA
  · exact va_Zqof (hts (.laysStatic "jdk/internal/util/Preconditions" "SIOOBE_FORMATTER" "Ljava/util/function/BiFunction;") (jtbl_in 3 _ (List.mem_of_getElem? (i := 136) (by decide +kernel)))) (hts (.initialized "jdk/internal/util/Preconditions") (jtbl_in 1 _ (List.mem_of_getElem? (i := 18) (by decide +kernel)))) (hs _ st_all.2) hA
