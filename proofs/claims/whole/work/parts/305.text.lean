/-! Texts: their length and their letters, by the library's own methods -/
theorem tb (i : Nat) {w : Jvm.Cond} (h : jchk [i] [w] = true) : w ∈ jTB := jchk_in h w List.mem_cons_self
theorem d_String_length_0 : decode m_String_length.2.1 0 = .ok (.aload_n 0, 1) := by decide +kernel
theorem d_String_length_1 : decode m_String_length.2.1 1 = .ok (.getfield 9, 3) := by decide +kernel
theorem d_String_length_4 : decode m_String_length.2.1 4 = .ok (.arraylength, 1) := by decide +kernel
theorem d_String_length_5 : decode m_String_length.2.1 5 = .ok (.aload_n 0, 1) := by decide +kernel
theorem d_String_length_6 : decode m_String_length.2.1 6 = .ok (.invokevirtual 335, 3) := by decide +kernel
theorem d_String_length_9 : decode m_String_length.2.1 9 = .ok (.ishr, 1) := by decide +kernel
theorem d_String_length_10 : decode m_String_length.2.1 10 = .ok (.ireturn, 1) := by decide +kernel
theorem d_String_coder_0 : decode m_String_coder.2.1 0 = .ok (.getstatic 38, 3) := by decide +kernel
theorem d_String_coder_3 : decode m_String_coder.2.1 3 = .ok (.ifCond .eq 10, 3) := by decide +kernel
theorem d_String_coder_6 : decode m_String_coder.2.1 6 = .ok (.aload_n 0, 1) := by decide +kernel
theorem d_String_coder_7 : decode m_String_coder.2.1 7 = .ok (.getfield 15, 3) := by decide +kernel
theorem d_String_coder_10 : decode m_String_coder.2.1 10 = .ok (.goto 4, 3) := by decide +kernel
theorem d_String_coder_13 : decode m_String_coder.2.1 13 = .ok (.iconst 1, 1) := by decide +kernel
theorem d_String_coder_14 : decode m_String_coder.2.1 14 = .ok (.ireturn, 1) := by decide +kernel
theorem d_String_charAt_0 : decode m_String_charAt.2.1 0 = .ok (.aload_n 0, 1) := by decide +kernel
theorem d_String_charAt_1 : decode m_String_charAt.2.1 1 = .ok (.invokevirtual 492, 3) := by decide +kernel
theorem d_String_charAt_4 : decode m_String_charAt.2.1 4 = .ok (.ifCond .eq 12, 3) := by decide +kernel
theorem d_String_charAt_7 : decode m_String_charAt.2.1 7 = .ok (.aload_n 0, 1) := by decide +kernel
theorem d_String_charAt_8 : decode m_String_charAt.2.1 8 = .ok (.getfield 9, 3) := by decide +kernel
theorem d_String_charAt_11 : decode m_String_charAt.2.1 11 = .ok (.iload_n 1, 1) := by decide +kernel
theorem d_String_charAt_12 : decode m_String_charAt.2.1 12 = .ok (.invokestatic 495, 3) := by decide +kernel
theorem d_String_charAt_15 : decode m_String_charAt.2.1 15 = .ok (.ireturn, 1) := by decide +kernel
theorem d_String_charAt_16 : decode m_String_charAt.2.1 16 = .ok (.aload_n 0, 1) := by decide +kernel
theorem d_String_charAt_17 : decode m_String_charAt.2.1 17 = .ok (.getfield 9, 3) := by decide +kernel
theorem d_String_charAt_20 : decode m_String_charAt.2.1 20 = .ok (.iload_n 1, 1) := by decide +kernel
theorem d_String_charAt_21 : decode m_String_charAt.2.1 21 = .ok (.invokestatic 498, 3) := by decide +kernel
theorem d_String_charAt_24 : decode m_String_charAt.2.1 24 = .ok (.ireturn, 1) := by decide +kernel
theorem d_String_isLatin1_0 : decode m_String_isLatin1.2.1 0 = .ok (.getstatic 38, 3) := by decide +kernel
theorem d_String_isLatin1_3 : decode m_String_isLatin1.2.1 3 = .ok (.ifCond .eq 14, 3) := by decide +kernel
theorem d_String_isLatin1_6 : decode m_String_isLatin1.2.1 6 = .ok (.aload_n 0, 1) := by decide +kernel
theorem d_String_isLatin1_7 : decode m_String_isLatin1.2.1 7 = .ok (.getfield 15, 3) := by decide +kernel
theorem d_String_isLatin1_10 : decode m_String_isLatin1.2.1 10 = .ok (.ifCond .ne 7, 3) := by decide +kernel
theorem d_String_isLatin1_13 : decode m_String_isLatin1.2.1 13 = .ok (.iconst 1, 1) := by decide +kernel
theorem d_String_isLatin1_14 : decode m_String_isLatin1.2.1 14 = .ok (.goto 4, 3) := by decide +kernel
theorem d_String_isLatin1_17 : decode m_String_isLatin1.2.1 17 = .ok (.iconst 0, 1) := by decide +kernel
theorem d_String_isLatin1_18 : decode m_String_isLatin1.2.1 18 = .ok (.ireturn, 1) := by decide +kernel
theorem d_StringLatin1_charAt_0 : decode m_StringLatin1_charAt.2.1 0 = .ok (.iload_n 1, 1) := by decide +kernel
theorem d_StringLatin1_charAt_1 : decode m_StringLatin1_charAt.2.1 1 = .ok (.aload_n 0, 1) := by decide +kernel
theorem d_StringLatin1_charAt_2 : decode m_StringLatin1_charAt.2.1 2 = .ok (.arraylength, 1) := by decide +kernel
theorem d_StringLatin1_charAt_3 : decode m_StringLatin1_charAt.2.1 3 = .ok (.invokestatic 9, 3) := by decide +kernel
theorem d_StringLatin1_charAt_6 : decode m_StringLatin1_charAt.2.1 6 = .ok (.aload_n 0, 1) := by decide +kernel
theorem d_StringLatin1_charAt_7 : decode m_StringLatin1_charAt.2.1 7 = .ok (.iload_n 1, 1) := by decide +kernel
theorem d_StringLatin1_charAt_8 : decode m_StringLatin1_charAt.2.1 8 = .ok (.baload, 1) := by decide +kernel
theorem d_StringLatin1_charAt_9 : decode m_StringLatin1_charAt.2.1 9 = .ok (.sipush 255, 3) := by decide +kernel
theorem d_StringLatin1_charAt_12 : decode m_StringLatin1_charAt.2.1 12 = .ok (.iand, 1) := by decide +kernel
theorem d_StringLatin1_charAt_13 : decode m_StringLatin1_charAt.2.1 13 = .ok (.i2c, 1) := by decide +kernel
theorem d_StringLatin1_charAt_14 : decode m_StringLatin1_charAt.2.1 14 = .ok (.ireturn, 1) := by decide +kernel
theorem d_String_checkIndex_0 : decode m_String_checkIndex.2.1 0 = .ok (.iload_n 0, 1) := by decide +kernel
theorem d_String_checkIndex_1 : decode m_String_checkIndex.2.1 1 = .ok (.iload_n 1, 1) := by decide +kernel
theorem d_String_checkIndex_2 : decode m_String_checkIndex.2.1 2 = .ok (.getstatic 1053, 3) := by decide +kernel
theorem d_String_checkIndex_5 : decode m_String_checkIndex.2.1 5 = .ok (.invokestatic 1059, 3) := by decide +kernel
theorem d_String_checkIndex_8 : decode m_String_checkIndex.2.1 8 = .ok (.pop, 1) := by decide +kernel
theorem d_String_checkIndex_9 : decode m_String_checkIndex.2.1 9 = .ok (.return_, 1) := by decide +kernel
theorem d_Preconditions_checkIndex_0 : decode m_Preconditions_checkIndex.2.1 0 = .ok (.iload_n 0, 1) := by decide +kernel
theorem d_Preconditions_checkIndex_1 : decode m_Preconditions_checkIndex.2.1 1 = .ok (.ifCond .lt 8, 3) := by decide +kernel
theorem d_Preconditions_checkIndex_4 : decode m_Preconditions_checkIndex.2.1 4 = .ok (.iload_n 0, 1) := by decide +kernel
theorem d_Preconditions_checkIndex_5 : decode m_Preconditions_checkIndex.2.1 5 = .ok (.iload_n 1, 1) := by decide +kernel
theorem d_Preconditions_checkIndex_6 : decode m_Preconditions_checkIndex.2.1 6 = .ok (.if_icmp .lt 10, 3) := by decide +kernel
theorem d_Preconditions_checkIndex_9 : decode m_Preconditions_checkIndex.2.1 9 = .ok (.aload_n 2, 1) := by decide +kernel
theorem d_Preconditions_checkIndex_10 : decode m_Preconditions_checkIndex.2.1 10 = .ok (.iload_n 0, 1) := by decide +kernel
theorem d_Preconditions_checkIndex_11 : decode m_Preconditions_checkIndex.2.1 11 = .ok (.iload_n 1, 1) := by decide +kernel
theorem d_Preconditions_checkIndex_12 : decode m_Preconditions_checkIndex.2.1 12 = .ok (.invokestatic 95, 3) := by decide +kernel
theorem d_Preconditions_checkIndex_15 : decode m_Preconditions_checkIndex.2.1 15 = .ok (.athrow, 1) := by decide +kernel
theorem d_Preconditions_checkIndex_16 : decode m_Preconditions_checkIndex.2.1 16 = .ok (.iload_n 0, 1) := by decide +kernel
theorem d_Preconditions_checkIndex_17 : decode m_Preconditions_checkIndex.2.1 17 = .ok (.ireturn, 1) := by decide +kernel
def jQs (x : Int) : Array Value → State → Outcome → State → Prop := fun _ st oc t => oc = .returned (some (.int (Int32.ofInt x))) ∧ t.heap = st.heap
def jQn : Array Value → State → Outcome → State → Prop := fun _ st oc t => oc = .returned none ∧ t.heap = st.heap
section TV
variable {p : Program} {l : Launch} {e : Env} {R : Room} {s : State} {mi : MethodId} {args : Array Value} {below : List Frame} {meth : Method} {c : Code} {H : Heap} {locs : List Loc} {cells slots : Nat} {Q : State → Prop} {pc : Nat} {lc : Array Slot} {rest st0 : List Value} {E : jE}
theorem j_calls {x : Int} (hr : va_Run p l e R s mi args below meth c H locs cells slots 0 0 (F0 mi pc lc st0) rest (fun st oc t => oc = .returned (some (.int (Int32.ofInt x))) ∧ t.heap = st.heap) (fun _ => False))
    (kk : W p l e R s mi args below meth c H locs cells slots Q (F0 mi (pc + 3) lc (.int (Int32.ofInt x) :: rest))) : W p l e R s mi args below meth c H locs cells slots Q (F0 mi pc lc st0) := by
  intro T hT X
  obtain ⟨v, st₀, t, T', L, h0, X', hL, e1, e2, ⟨hv, hh⟩, st⟩ := hr T hT X
  have hLn : L = [] := List.eq_nil_iff_forall_not_mem.mpr (fun q hq => hL q hq)
  subst hLn
  rw [List.append_nil] at X'
  obtain ⟨t2, a1, b1⟩ := kk T' (by rw [e1, hh, h0]) X'
  cases hv
  exact ⟨t2, st t2 a1, b1⟩
theorem j_calln (hr : va_Run p l e R s mi args below meth c H locs cells slots 0 0 (F0 mi pc lc st0) rest (fun st oc t => oc = .returned none ∧ t.heap = st.heap) (fun _ => False))
    (kk : W p l e R s mi args below meth c H locs cells slots Q (F0 mi (pc + 3) lc rest)) : W p l e R s mi args below meth c H locs cells slots Q (F0 mi pc lc st0) := by
  intro T hT X
  obtain ⟨v, st₀, t, T', L, h0, X', hL, e1, e2, ⟨hv, hh⟩, st⟩ := hr T hT X
  have hLn : L = [] := List.eq_nil_iff_forall_not_mem.mpr (fun q hq => hL q hq)
  subst hLn
  rw [List.append_nil] at X'
  obtain ⟨t2, a1, b1⟩ := kk T' (by rw [e1, hh, h0]) X'
  cases hv
  exact ⟨t2, st t2 a1, b1⟩
theorem jsblind {as : List Value} : FrameBlind (va_Pc as (fun U => jstat E U U.heap)) := fun a U g mk h => ⟨h.1, jstat_same h.2 rfl⟩
theorem jspre {as : List Value} (h : jstat E s s.heap) (hS : va_S (jA E) s.heap H locs) : PreS s H (va_Pc as (fun U => jstat E U U.heap)) as := ⟨jsblind, fun U hU hW => ⟨rfl, by show jstat E U U.heap; rw [hU]; exact jstat_on h hW hS⟩⟩
theorem jgoodS {own : String} {i : Nat} {m : jM} (h1 : .methodLink own i m.1 ∈ jTB) (h2 : .static m.1 ∈ jTB) (h3 : .initialized m.1.cls ∈ jTB) (h4 : jcw m ∈ jTB) : GoodIn jTB (va_wsS own i m.1 (jws m)) := by
  intro w hw
  rcases List.mem_append.mp hw with h9 | h9
  · exact jgood1 (by simp at h9; rcases h9 with rfl | rfl | rfl <;> assumption)
  · exact jgood (Ts := jTB) h4 w h9
theorem jgoodV {own : String} {i : Nat} {m : jM} (h1 : .methodLink own i m.1 ∈ jTB) (h2 : .instanceMethod m.1 ∈ jTB) (h5 : .selects m.1.cls m.1 m.1 ∈ jTB) (h3 : .initialized m.1.cls ∈ jTB) (h4 : jcw m ∈ jTB) : GoodIn jTB (wsV own i m.1.cls m.1 (jws m)) := by
  intro w hw
  rcases List.mem_append.mp hw with h9 | h9
  · exact jgood1 (by simp at h9; rcases h9 with rfl | rfl | rfl | rfl <;> assumption)
  · exact jgood (Ts := jTB) h4 w h9
theorem txt_len {j : Nat} : (jtxs.map List.length).getD j 0 = (jtb j).length := by
  unfold jtb
  rw [List.getD_eq_getElem?_getD, List.getD_eq_getElem?_getD, List.getElem?_map]
  cases jtxs[j]? <;> rfl
theorem txt_byte {j k : Nat} : ((jtxs.map (fun l => l.map (fun c => Int32.ofNat c))).getD j []).getD k 0 = Int32.ofNat ((jtb j).getD k 0) := by
  unfold jtb
  simp only [List.getD_eq_getElem?_getD, List.getElem?_map]
  cases jtxs[j]? with
  | none => rfl
  | some l =>
    simp only [Option.map_some, Option.getD_some, List.getElem?_map]
    cases l[k]? <;> rfl
theorem txt_small : ∀ l ∈ jtxs, l.length ≤ 10 ∧ ∀ c ∈ l, 97 ≤ c ∧ c ≤ 122 := by decide
theorem txt_le {j : Nat} : (jtb j).length ≤ 10 := by
  unfold jtb
  rw [List.getD_eq_getElem?_getD]
  cases h : jtxs[j]? with
  | none => simp
  | some l => exact (txt_small l (List.mem_of_getElem? h)).1
theorem txt_ch {j k : Nat} : (jtb j).getD k 0 ≤ 122 := by
  unfold jtb
  simp only [List.getD_eq_getElem?_getD]
  cases h : jtxs[j]? with
  | none => simp
  | some l =>
    simp only [Option.getD_some]
    cases h2 : l[k]? with
    | none => simp
    | some c => exact ((txt_small l (List.mem_of_getElem? h)).2 c (List.mem_of_getElem? h2)).2
theorem W.fin {mc ms : Nat} {g : JFrame} (h1 : cells ≤ mc) (h2 : slots ≤ ms) (kk : W p l e R s mi args below meth c H locs mc ms Q g) : W p l e R s mi args below meth c H locs cells slots Q g := W.widen h1 h2 kk
end TV
theorem c_coder (l : Launch) (E : jE) (d j : Nat) (hj : j < jtxs.length) : Met l m_String_coder.1 (jws m_String_coder) (jroom d 0 0) (va_Pc [.ref (E.2.2.2.1 j)] (fun U => jstat E U U.heap)) (jQs 0) 0 0 (fun _ => False) := by
  refine Met.ofW (cc := m_String_coder.2.1) (maxL := 1) (ret := (some .byte)) (by decide) rfl ?_
  intro p e s mi args below meth c s₁ B hml hv
  obtain ⟨rfl, hst⟩ := hv
  have hx := B.exec
  have hb := B.bytes
  have hr := B.returns
  have hts0 := atoms_spec (ws := jws m_String_coder) B.pre
  have hts : ∀ w ∈ jTB, w.before ([.ref (E.2.2.2.1 j)] : List Value).toArray s = true := fun w hw => hts0 w (List.mem_cons_of_mem _ hw)
  have hown : s.vm.findClass m_String_coder.1.cls = some mi.cls := findClass_of_methodNamed B.named
  have hlocks := B.notSynchronized
  have hS : va_S (jA E) s.heap s.heap [] := va_S.rf
  have hl := lv_entry ([.ref (E.2.2.2.1 j)]) (n := 1) (Nat.le_of_ble_eq_true rfl)
  rw [lg_entry_eq]
  generalize (lg_sl ([.ref (E.2.2.2.1 j)]) ++ List.replicate (1 - (lg_sl ([.ref (E.2.2.2.1 j)])).length) Slot.unset).toArray = lc at hl ⊢
  have hl : lv_has lc 1 [(0, .ref (E.2.2.2.1 j))] := hl
  obtain ⟨v1, v2, v3, v4⟩ := hst.2.2.2.1.1 j hj
  refine va_gets hx hb hst.2.2.2.2.1 hS hown (hts _ (tb 3115 (w := .fieldLink "java/lang/String" 38 "java/lang/String" "COMPACT_STRINGS" "Z") (by decide +kernel))) (fun _ h => h) d_String_coder_0 ?_
  refine lv_if_eq (tgt := 13) hx hb d_String_coder_3 (by decide) (fun q => by cases q) (fun _ => ?_)
  refine lv_aload_n hx hb d_String_coder_6 rfl (lv_at hl 0 rfl) ?_
  refine vk_getf hx hb v2 hS hown (hts _ (tb 9014 (w := .fieldLink "java/lang/String" 15 "java/lang/String" "coder" "B") (by decide +kernel))) (fun _ h => h) d_String_coder_7 ?_
  refine lv_goto (tgt := 14) hx hb d_String_coder_10 (by decide) ?_
  exact W.zret hx hb hr rfl (fun t ht hW => ⟨rfl, ht⟩) (fun q hq => by cases hq) d_String_coder_14
theorem c_isLatin1 (l : Launch) (E : jE) (d j : Nat) (hj : j < jtxs.length) : Met l m_String_isLatin1.1 (jws m_String_isLatin1) (jroom d 0 0) (va_Pc [.ref (E.2.2.2.1 j)] (fun U => jstat E U U.heap)) (jQs 1) 0 0 (fun _ => False) := by
  refine Met.ofW (cc := m_String_isLatin1.2.1) (maxL := 1) (ret := (some .boolean)) (by decide) rfl ?_
  intro p e s mi args below meth c s₁ B hml hv
  obtain ⟨rfl, hst⟩ := hv
  have hx := B.exec
  have hb := B.bytes
  have hr := B.returns
  have hts0 := atoms_spec (ws := jws m_String_isLatin1) B.pre
  have hts : ∀ w ∈ jTB, w.before ([.ref (E.2.2.2.1 j)] : List Value).toArray s = true := fun w hw => hts0 w (List.mem_cons_of_mem _ hw)
  have hown : s.vm.findClass m_String_isLatin1.1.cls = some mi.cls := findClass_of_methodNamed B.named
  have hlocks := B.notSynchronized
  have hS : va_S (jA E) s.heap s.heap [] := va_S.rf
  have hl := lv_entry ([.ref (E.2.2.2.1 j)]) (n := 1) (Nat.le_of_ble_eq_true rfl)
  rw [lg_entry_eq]
  generalize (lg_sl ([.ref (E.2.2.2.1 j)]) ++ List.replicate (1 - (lg_sl ([.ref (E.2.2.2.1 j)])).length) Slot.unset).toArray = lc at hl ⊢
  have hl : lv_has lc 1 [(0, .ref (E.2.2.2.1 j))] := hl
  obtain ⟨v1, v2, v3, v4⟩ := hst.2.2.2.1.1 j hj
  refine va_gets hx hb hst.2.2.2.2.1 hS hown (hts _ (tb 3115 (w := .fieldLink "java/lang/String" 38 "java/lang/String" "COMPACT_STRINGS" "Z") (by decide +kernel))) (fun _ h => h) d_String_isLatin1_0 ?_
  refine lv_if_eq (tgt := 17) hx hb d_String_isLatin1_3 (by decide) (fun q => by cases q) (fun _ => ?_)
  refine lv_aload_n hx hb d_String_isLatin1_6 rfl (lv_at hl 0 rfl) ?_
  refine vk_getf hx hb v2 hS hown (hts _ (tb 9014 (w := .fieldLink "java/lang/String" 15 "java/lang/String" "coder" "B") (by decide +kernel))) (fun _ h => h) d_String_isLatin1_7 ?_
  refine lv_if_ne (tgt := 17) hx hb d_String_isLatin1_10 (by decide) (fun q => absurd rfl q) (fun _ => ?_)
  refine lv_iconst (v := 1) hx hb d_String_isLatin1_13 (by decide) ?_
  refine lv_goto (tgt := 18) hx hb d_String_isLatin1_14 (by decide) ?_
  exact W.zret hx hb hr rfl (fun t ht hW => ⟨rfl, ht⟩) (fun q hq => by cases hq) d_String_isLatin1_18
theorem jroom1 (d L : Nat) (hL : L ≤ 22) : (jroom d 0 0).frames + 1 ≤ (jroom (d + 1) 0 0).frames ∧ 8 + (L + 11) + (jroom d 0 0).locals ≤ (jroom (d + 1) 0 0).locals := jroom_fit (Nat.lt_succ_self d) hL
theorem c_length (l : Launch) (E : jE) (d j : Nat) (hj : j < jtxs.length) : Met l m_String_length.1 (jws m_String_length) (jroom (d + 1) 0 0) (va_Pc [.ref (E.2.2.2.1 j)] (fun U => jstat E U U.heap)) (jQs ((jtb j).length : Nat)) 0 0 (fun _ => False) := by
  refine Met.ofW (cc := m_String_length.2.1) (maxL := 1) (ret := (some .int)) (by decide) rfl ?_
  intro p e s mi args below meth c s₁ B hml hv
  obtain ⟨rfl, hst⟩ := hv
  have hx := B.exec
  have hb := B.bytes
  have hr := B.returns
  have hts0 := atoms_spec (ws := jws m_String_length) B.pre
  have hts : ∀ w ∈ jTB, w.before ([.ref (E.2.2.2.1 j)] : List Value).toArray s = true := fun w hw => hts0 w (List.mem_cons_of_mem _ hw)
  have hown : s.vm.findClass m_String_length.1.cls = some mi.cls := findClass_of_methodNamed B.named
  have hlocks := B.notSynchronized
  have hS : va_S (jA E) s.heap s.heap [] := va_S.rf
  have hl := lv_entry ([.ref (E.2.2.2.1 j)]) (n := 1) (Nat.le_of_ble_eq_true rfl)
  rw [lg_entry_eq]
  generalize (lg_sl ([.ref (E.2.2.2.1 j)]) ++ List.replicate (1 - (lg_sl ([.ref (E.2.2.2.1 j)])).length) Slot.unset).toArray = lc at hl ⊢
  have hl : lv_has lc 1 [(0, .ref (E.2.2.2.1 j))] := hl
  obtain ⟨v1, v2, v3, v4⟩ := hst.2.2.2.1.1 j hj
  refine lv_aload_n hx hb d_String_length_0 rfl (lv_at hl 0 rfl) ?_
  refine vk_getf hx hb v3 hS hown (hts _ (tb 9013 (w := .fieldLink "java/lang/String" 9 "java/lang/String" "value" "[B") (by decide +kernel))) (fun _ h => h) d_String_length_1 ?_
  refine va_tlen hx hb v4 hS rfl d_String_length_4 ?_
  refine lv_aload_n hx hb d_String_length_5 rfl (lv_at hl 0 rfl) ?_
  refine j_calls (x := 0) (va_runV (As := []) ⟨hx, hb, hml, hown, hts⟩ (c_coder l E d j hj) (cwV 0 hts (jgoodV (own := "java/lang/String") (i := 335) (m := m_String_coder) (tb 3111 (w := .methodLink "java/lang/String" 335 m_String_coder.1) (by decide +kernel)) (tb 3112 (w := .instanceMethod m_String_coder.1) (by decide +kernel)) (tb 3113 (w := .selects m_String_coder.1.cls m_String_coder.1 m_String_coder.1) (by decide +kernel)) (tb 1016 (w := .initialized m_String_coder.1.cls) (by decide +kernel)) (tb 3114 (w := jcw m_String_coder) (by decide +kernel))) rfl rfl rfl (by decide +kernel) (jroom1 d 1 (by decide))) ⟨jsblind, vk_recv hst.2.2.2.1 hj hS, (jspre hst hS).2⟩ rfl rfl hl.1 rfl (lv_room (Nat.le_of_ble_eq_true rfl)) d_String_length_6 ⟨Nat.le_refl _, Nat.le_refl _⟩) ?_
  refine lv_ishr hx hb d_String_length_9 ?_
  have e : Int32.ofNat ((jtxs.map List.length).getD j 0) >>> (Int32.ofInt 0 &&& 31) = Int32.ofInt (((jtb j).length : Nat) : Int) := by
    rw [txt_len, i32_ofNat, show (Int32.ofInt 0 &&& 31 : Int32) = 0 from by decide, Int32.shiftRight_zero]
  rw [e]
  exact W.iret hx hb hr (fun t ht hW => ⟨rfl, ht⟩) (fun q hq => by cases hq) d_String_length_10
theorem c_pci (l : Launch) (E : jE) (d : Nat) (i n : Int) (v : Value) (hv : v = .null ∨ ∃ a, v = .ref a) (h0 : 0 ≤ i) (h1 : i < n) (h2 : n < 1000) : Met l m_Preconditions_checkIndex.1 (jws m_Preconditions_checkIndex) (jroom d 0 0) (va_Pc [.int (Int32.ofInt i), .int (Int32.ofInt n), v] (fun U => jstat E U U.heap)) (jQs i) 0 0 (fun _ => False) := by
  rcases hv with rfl | ⟨q, rfl⟩
  · refine Met.ofW (cc := m_Preconditions_checkIndex.2.1) (maxL := 3) (ret := (some .int)) (by decide) rfl ?_
    intro p e s mi args below meth c s₁ B hml hv
    obtain ⟨rfl, hst⟩ := hv
    have hx := B.exec
    have hb := B.bytes
    have hr := B.returns
    have hts0 := atoms_spec (ws := jws m_Preconditions_checkIndex) B.pre
    have hts : ∀ w ∈ jTB, w.before ([.int (Int32.ofInt i), .int (Int32.ofInt n), .null] : List Value).toArray s = true := fun w hw => hts0 w (List.mem_cons_of_mem _ hw)
    have hown : s.vm.findClass m_Preconditions_checkIndex.1.cls = some mi.cls := findClass_of_methodNamed B.named
    have hlocks := B.notSynchronized
    have hS : va_S (jA E) s.heap s.heap [] := va_S.rf
    have hl := lv_entry ([.int (Int32.ofInt i), .int (Int32.ofInt n), .null]) (n := 3) (Nat.le_of_ble_eq_true rfl)
    rw [lg_entry_eq]
    generalize (lg_sl ([.int (Int32.ofInt i), .int (Int32.ofInt n), .null]) ++ List.replicate (3 - (lg_sl ([.int (Int32.ofInt i), .int (Int32.ofInt n), .null])).length) Slot.unset).toArray = lc at hl ⊢
    have hl : lv_has lc 3 [(0, .int (Int32.ofInt i)), (1, .int (Int32.ofInt n)), (2, .null)] := hl
    refine lv_iload_n hx hb d_Preconditions_checkIndex_0 rfl (lv_at hl 0 rfl) ?_
    refine lv_if_lt (tgt := 9) hx hb d_Preconditions_checkIndex_1 (by decide) (fun q => absurd q (lt0_32 h0 (by omega))) (fun _ => ?_)
    refine lv_iload_n hx hb d_Preconditions_checkIndex_4 rfl (lv_at hl 0 rfl) ?_
    refine lv_iload_n hx hb d_Preconditions_checkIndex_5 rfl (lv_at hl 1 rfl) ?_
    refine lv_icmp_lt (tgt := 16) hx hb d_Preconditions_checkIndex_6 (by decide) (fun _ => ?_) (fun q => absurd ((i32_lt (by unfold r32; omega) (by unfold r32; omega)).mpr h1) q)
    refine lv_iload_n hx hb d_Preconditions_checkIndex_16 rfl (lv_at hl 0 rfl) ?_
    exact W.iret hx hb hr (fun t ht hW => ⟨rfl, ht⟩) (fun q hq => by cases hq) d_Preconditions_checkIndex_17
  · refine Met.ofW (cc := m_Preconditions_checkIndex.2.1) (maxL := 3) (ret := (some .int)) (by decide) rfl ?_
    intro p e s mi args below meth c s₁ B hml hv
    obtain ⟨rfl, hst⟩ := hv
    have hx := B.exec
    have hb := B.bytes
    have hr := B.returns
    have hts0 := atoms_spec (ws := jws m_Preconditions_checkIndex) B.pre
    have hts : ∀ w ∈ jTB, w.before ([.int (Int32.ofInt i), .int (Int32.ofInt n), .ref q] : List Value).toArray s = true := fun w hw => hts0 w (List.mem_cons_of_mem _ hw)
    have hown : s.vm.findClass m_Preconditions_checkIndex.1.cls = some mi.cls := findClass_of_methodNamed B.named
    have hlocks := B.notSynchronized
    have hS : va_S (jA E) s.heap s.heap [] := va_S.rf
    have hl := lv_entry ([.int (Int32.ofInt i), .int (Int32.ofInt n), .ref q]) (n := 3) (Nat.le_of_ble_eq_true rfl)
    rw [lg_entry_eq]
    generalize (lg_sl ([.int (Int32.ofInt i), .int (Int32.ofInt n), .ref q]) ++ List.replicate (3 - (lg_sl ([.int (Int32.ofInt i), .int (Int32.ofInt n), .ref q])).length) Slot.unset).toArray = lc at hl ⊢
    have hl : lv_has lc 3 [(0, .int (Int32.ofInt i)), (1, .int (Int32.ofInt n)), (2, .ref q)] := hl
    refine lv_iload_n hx hb d_Preconditions_checkIndex_0 rfl (lv_at hl 0 rfl) ?_
    refine lv_if_lt (tgt := 9) hx hb d_Preconditions_checkIndex_1 (by decide) (fun q => absurd q (lt0_32 h0 (by omega))) (fun _ => ?_)
    refine lv_iload_n hx hb d_Preconditions_checkIndex_4 rfl (lv_at hl 0 rfl) ?_
    refine lv_iload_n hx hb d_Preconditions_checkIndex_5 rfl (lv_at hl 1 rfl) ?_
    refine lv_icmp_lt (tgt := 16) hx hb d_Preconditions_checkIndex_6 (by decide) (fun _ => ?_) (fun q => absurd ((i32_lt (by unfold r32; omega) (by unfold r32; omega)).mpr h1) q)
    refine lv_iload_n hx hb d_Preconditions_checkIndex_16 rfl (lv_at hl 0 rfl) ?_
    exact W.iret hx hb hr (fun t ht hW => ⟨rfl, ht⟩) (fun q hq => by cases hq) d_Preconditions_checkIndex_17
theorem c_ci (l : Launch) (E : jE) (d : Nat) (i n : Int) (h0 : 0 ≤ i) (h1 : i < n) (h2 : n < 1000) : Met l m_String_checkIndex.1 (jws m_String_checkIndex) (jroom (d + 1) 0 0) (va_Pc [.int (Int32.ofInt i), .int (Int32.ofInt n)] (fun U => jstat E U U.heap)) jQn 0 0 (fun _ => False) := by
  refine Met.ofW (cc := m_String_checkIndex.2.1) (maxL := 2) (ret := none) (by decide) rfl ?_
  intro p e s mi args below meth c s₁ B hml hv
  obtain ⟨rfl, hst⟩ := hv
  have hx := B.exec
  have hb := B.bytes
  have hr := B.returns
  have hts0 := atoms_spec (ws := jws m_String_checkIndex) B.pre
  have hts : ∀ w ∈ jTB, w.before ([.int (Int32.ofInt i), .int (Int32.ofInt n)] : List Value).toArray s = true := fun w hw => hts0 w (List.mem_cons_of_mem _ hw)
  have hown : s.vm.findClass m_String_checkIndex.1.cls = some mi.cls := findClass_of_methodNamed B.named
  have hlocks := B.notSynchronized
  have hS : va_S (jA E) s.heap s.heap [] := va_S.rf
  have hl := lv_entry ([.int (Int32.ofInt i), .int (Int32.ofInt n)]) (n := 2) (Nat.le_of_ble_eq_true rfl)
  rw [lg_entry_eq]
  generalize (lg_sl ([.int (Int32.ofInt i), .int (Int32.ofInt n)]) ++ List.replicate (2 - (lg_sl ([.int (Int32.ofInt i), .int (Int32.ofInt n)])).length) Slot.unset).toArray = lc at hl ⊢
  have hl : lv_has lc 2 [(0, .int (Int32.ofInt i)), (1, .int (Int32.ofInt n))] := hl
  refine lv_iload_n hx hb d_String_checkIndex_0 rfl (lv_at hl 0 rfl) ?_
  refine lv_iload_n hx hb d_String_checkIndex_1 rfl (lv_at hl 1 rfl) ?_
  have go : ∀ v : Value, (v = .null ∨ ∃ a, v = .ref a) → v.category = 1 → va_Z "jdk/internal/util/Preconditions" "SIOOBE_FORMATTER" "Ljava/util/function/BiFunction;" v (jA E) s s.heap → W p l e (headSpec (jws m_String_checkIndex) (jroom (d + 1) 0 0)).room s mi ([Value.int (Int32.ofInt i), Value.int (Int32.ofInt n)] : List Value).toArray below meth c s.heap [] 0 0 (MQ below jQn ([Value.int (Int32.ofInt i), Value.int (Int32.ofInt n)] : List Value).toArray s 0 0 (fun _ => False)) (F0 mi 2 lc [.int (Int32.ofInt n), .int (Int32.ofInt i)]) := fun v hv hc hZ => by
    refine va_gets hx hb hZ hS hown (hts _ (tb 3135 (w := .fieldLink "java/lang/String" 1053 "jdk/internal/util/Preconditions" "SIOOBE_FORMATTER" "Ljava/util/function/BiFunction;") (by decide +kernel))) (fun _ h => h) d_String_checkIndex_2 ?_
    refine j_calls (x := i) (va_runS (As := [.int (Int32.ofInt i), .int (Int32.ofInt n), v]) (rest := []) ⟨hx, hb, hml, hown, hts⟩ (c_pci l E d i n v hv h0 h1 h2) (va_cwS 3 hts (jgoodS (own := "java/lang/String") (i := 1059) (m := m_Preconditions_checkIndex) (tb 3137 (w := .methodLink "java/lang/String" 1059 m_Preconditions_checkIndex.1) (by decide +kernel)) (tb 3138 (w := .static m_Preconditions_checkIndex.1) (by decide +kernel)) (tb 1018 (w := .initialized m_Preconditions_checkIndex.1.cls) (by decide +kernel)) (tb 3139 (w := jcw m_Preconditions_checkIndex) (by decide +kernel))) rfl rfl rfl (by decide +kernel) (jroom1 d 3 (by decide))) (jspre hst hS) rfl rfl hl.1 rfl (lv_room (Nat.le_of_ble_eq_true rfl)) d_String_checkIndex_5 ⟨Nat.le_refl _, Nat.le_refl _⟩) ?_
    refine lv_pop hx hb d_String_checkIndex_8 rfl ?_
    exact W.vret hx hb hr (fun t ht hW => ⟨rfl, ht⟩) (fun q hq => by cases hq) d_String_checkIndex_9
  rcases hst.2.2.2.2.2.1 with hZ | ⟨q, hZ⟩
  · exact go .null (Or.inl rfl) rfl hZ
  · exact go (.ref q) (Or.inr ⟨q, rfl⟩) rfl hZ
theorem c_latinAt (l : Launch) (E : jE) (d j : Nat) (i : Int) (hj : j < jtxs.length) (h0 : 0 ≤ i) (h1 : i < (((jtb j).length : Nat) : Int)) : Met l m_StringLatin1_charAt.1 (jws m_StringLatin1_charAt) (jroom (d + 2) 0 0) (va_Pc [.ref (E.2.2.2.2.1 j), .int (Int32.ofInt i)] (fun U => jstat E U U.heap)) (jQs (((jtb j).getD i.toNat 0 : Nat) : Int)) 0 0 (fun _ => False) := by
  refine Met.ofW (cc := m_StringLatin1_charAt.2.1) (maxL := 2) (ret := (some .char)) (by decide) rfl ?_
  intro p e s mi args below meth c s₁ B hml hv
  obtain ⟨rfl, hst⟩ := hv
  have hx := B.exec
  have hb := B.bytes
  have hr := B.returns
  have hts0 := atoms_spec (ws := jws m_StringLatin1_charAt) B.pre
  have hts : ∀ w ∈ jTB, w.before ([.ref (E.2.2.2.2.1 j), .int (Int32.ofInt i)] : List Value).toArray s = true := fun w hw => hts0 w (List.mem_cons_of_mem _ hw)
  have hown : s.vm.findClass m_StringLatin1_charAt.1.cls = some mi.cls := findClass_of_methodNamed B.named
  have hlocks := B.notSynchronized
  have hS : va_S (jA E) s.heap s.heap [] := va_S.rf
  have hl := lv_entry ([.ref (E.2.2.2.2.1 j), .int (Int32.ofInt i)]) (n := 2) (Nat.le_of_ble_eq_true rfl)
  rw [lg_entry_eq]
  generalize (lg_sl ([.ref (E.2.2.2.2.1 j), .int (Int32.ofInt i)]) ++ List.replicate (2 - (lg_sl ([.ref (E.2.2.2.2.1 j), .int (Int32.ofInt i)])).length) Slot.unset).toArray = lc at hl ⊢
  have hl : lv_has lc 2 [(0, .ref (E.2.2.2.2.1 j)), (1, .int (Int32.ofInt i))] := hl
  obtain ⟨v1, v2, v3, v4⟩ := hst.2.2.2.1.1 j hj
  have h9 := txt_le (j := j)
  refine lv_iload_n hx hb d_StringLatin1_charAt_0 rfl (lv_at hl 1 rfl) ?_
  refine lv_aload_n hx hb d_StringLatin1_charAt_1 rfl (lv_at hl 0 rfl) ?_
  refine va_tlen hx hb v4 hS (v := Int32.ofInt (((jtb j).length : Nat) : Int)) (by rw [txt_len, i32_ofNat]) d_StringLatin1_charAt_2 ?_
  refine j_calln (va_runS (As := [.int (Int32.ofInt i), .int (Int32.ofInt (((jtb j).length : Nat) : Int))]) (rest := []) ⟨hx, hb, hml, hown, hts⟩ (c_ci l E d i _ h0 h1 (by omega)) (va_cwS 2 hts (jgoodS (own := "java/lang/StringLatin1") (i := 9) (m := m_String_checkIndex) (tb 3132 (w := .methodLink "java/lang/StringLatin1" 9 m_String_checkIndex.1) (by decide +kernel)) (tb 3133 (w := .static m_String_checkIndex.1) (by decide +kernel)) (tb 1016 (w := .initialized m_String_checkIndex.1.cls) (by decide +kernel)) (tb 3134 (w := jcw m_String_checkIndex) (by decide +kernel))) rfl rfl rfl (by decide +kernel) (jroom1 (d + 1) 2 (by decide))) (jspre hst hS) rfl rfl hl.1 rfl (lv_room (Nat.le_of_ble_eq_true rfl)) d_StringLatin1_charAt_3 ⟨Nat.le_refl _, Nat.le_refl _⟩) ?_
  refine lv_aload_n hx hb d_StringLatin1_charAt_6 rfl (lv_at hl 0 rfl) ?_
  refine lv_iload_n hx hb d_StringLatin1_charAt_7 rfl (lv_at hl 1 rfl) ?_
  have hin : vp_in (Int32.ofInt i) ((jtxs.map List.length).getD j 0) := by rw [txt_len]; exact vp_in_of32 h0 h1 (by omega)
  refine va_tb hx hb v4 hS hin (v := .int (Int32.ofNat ((jtb j).getD i.toNat 0))) (by show Value.int _ = _; rw [i32_clamp h0 (by omega), txt_byte]) d_StringLatin1_charAt_8 ?_
  refine lv_sipush (v := 255) hx hb d_StringLatin1_charAt_9 (by decide) ?_
  refine lv_iand hx hb d_StringLatin1_charAt_12 ?_
  have hc := txt_ch (j := j) (k := i.toNat)
  generalize (jtb j).getD i.toNat 0 = ch at hc ⊢
  have e1 : (Int32.ofNat ch &&& 255 : Int32) = Int32.ofInt (ch : Int) := by
    have : ∀ c : Nat, c ≤ 122 → (Int32.ofNat c &&& 255 : Int32) = Int32.ofInt (c : Int) := by decide +kernel
    exact this ch hc
  rw [e1]
  have e2 : ((Int32.ofInt (ch : Int)).toUInt32 % 65536).toInt32 = Int32.ofInt (ch : Int) := by
    have : ∀ c : Nat, c ≤ 122 → ((Int32.ofInt (c : Int)).toUInt32 % 65536).toInt32 = Int32.ofInt (c : Int) := by decide +kernel
    exact this ch hc
  refine lv_i2c hx hb d_StringLatin1_charAt_13 e2 ?_
  refine W.zret hx hb hr ?_ (fun t ht hW => ⟨rfl, ht⟩) (fun q hq => by cases hq) d_StringLatin1_charAt_14
  have : ∀ c : Nat, c ≤ 122 → narrow .char (.int (Int32.ofInt (c : Int))) = .int (Int32.ofInt (c : Int)) := by decide +kernel
  exact this ch hc
theorem c_charAt (l : Launch) (E : jE) (d j : Nat) (i : Int) (hj : j < jtxs.length) (h0 : 0 ≤ i) (h1 : i < (((jtb j).length : Nat) : Int)) : Met l m_String_charAt.1 (jws m_String_charAt) (jroom (d + 3) 0 0) (va_Pc [.ref (E.2.2.2.1 j), .int (Int32.ofInt i)] (fun U => jstat E U U.heap)) (jQs (((jtb j).getD i.toNat 0 : Nat) : Int)) 0 0 (fun _ => False) := by
  refine Met.ofW (cc := m_String_charAt.2.1) (maxL := 2) (ret := (some .char)) (by decide) rfl ?_
  intro p e s mi args below meth c s₁ B hml hv
  obtain ⟨rfl, hst⟩ := hv
  have hx := B.exec
  have hb := B.bytes
  have hr := B.returns
  have hts0 := atoms_spec (ws := jws m_String_charAt) B.pre
  have hts : ∀ w ∈ jTB, w.before ([.ref (E.2.2.2.1 j), .int (Int32.ofInt i)] : List Value).toArray s = true := fun w hw => hts0 w (List.mem_cons_of_mem _ hw)
  have hown : s.vm.findClass m_String_charAt.1.cls = some mi.cls := findClass_of_methodNamed B.named
  have hlocks := B.notSynchronized
  have hS : va_S (jA E) s.heap s.heap [] := va_S.rf
  have hl := lv_entry ([.ref (E.2.2.2.1 j), .int (Int32.ofInt i)]) (n := 2) (Nat.le_of_ble_eq_true rfl)
  rw [lg_entry_eq]
  generalize (lg_sl ([.ref (E.2.2.2.1 j), .int (Int32.ofInt i)]) ++ List.replicate (2 - (lg_sl ([.ref (E.2.2.2.1 j), .int (Int32.ofInt i)])).length) Slot.unset).toArray = lc at hl ⊢
  have hl : lv_has lc 2 [(0, .ref (E.2.2.2.1 j)), (1, .int (Int32.ofInt i))] := hl
  obtain ⟨v1, v2, v3, v4⟩ := hst.2.2.2.1.1 j hj
  refine lv_aload_n hx hb d_String_charAt_0 rfl (lv_at hl 0 rfl) ?_
  refine j_calls (x := 1) (va_runV (As := []) (rest := []) ⟨hx, hb, hml, hown, hts⟩ (c_isLatin1 l E (d + 2) j hj) (cwV 0 hts (jgoodV (own := "java/lang/String") (i := 492) (m := m_String_isLatin1) (tb 3125 (w := .methodLink "java/lang/String" 492 m_String_isLatin1.1) (by decide +kernel)) (tb 3126 (w := .instanceMethod m_String_isLatin1.1) (by decide +kernel)) (tb 3127 (w := .selects m_String_isLatin1.1.cls m_String_isLatin1.1 m_String_isLatin1.1) (by decide +kernel)) (tb 1016 (w := .initialized m_String_isLatin1.1.cls) (by decide +kernel)) (tb 3128 (w := jcw m_String_isLatin1) (by decide +kernel))) rfl rfl rfl (by decide +kernel) (jroom1 (d + 2) 1 (by decide))) ⟨jsblind, vk_recv hst.2.2.2.1 hj hS, (jspre hst hS).2⟩ rfl rfl hl.1 rfl (lv_room (Nat.le_of_ble_eq_true rfl)) d_String_charAt_1 ⟨Nat.le_refl _, Nat.le_refl _⟩) ?_
  refine lv_if_eq (tgt := 16) hx hb d_String_charAt_4 (by decide) (fun q => absurd q (by decide)) (fun _ => ?_)
  refine lv_aload_n hx hb d_String_charAt_7 rfl (lv_at hl 0 rfl) ?_
  refine vk_getf hx hb v3 hS hown (hts _ (tb 9013 (w := .fieldLink "java/lang/String" 9 "java/lang/String" "value" "[B") (by decide +kernel))) (fun _ h => h) d_String_charAt_8 ?_
  refine lv_iload_n hx hb d_String_charAt_11 rfl (lv_at hl 1 rfl) ?_
  refine j_calls (va_runS (As := [.ref (E.2.2.2.2.1 j), .int (Int32.ofInt i)]) (rest := []) ⟨hx, hb, hml, hown, hts⟩ (c_latinAt l E d j i hj h0 h1) (va_cwS 2 hts (jgoodS (own := "java/lang/String") (i := 495) (m := m_StringLatin1_charAt) (tb 3129 (w := .methodLink "java/lang/String" 495 m_StringLatin1_charAt.1) (by decide +kernel)) (tb 3130 (w := .static m_StringLatin1_charAt.1) (by decide +kernel)) (tb 1017 (w := .initialized m_StringLatin1_charAt.1.cls) (by decide +kernel)) (tb 3131 (w := jcw m_StringLatin1_charAt) (by decide +kernel))) rfl rfl rfl (by decide +kernel) (jroom1 (d + 2) 2 (by decide))) (jspre hst hS) rfl rfl hl.1 rfl (lv_room (Nat.le_of_ble_eq_true rfl)) d_String_charAt_12 ⟨Nat.le_refl _, Nat.le_refl _⟩) ?_
  have hc := txt_ch (j := j) (k := i.toNat)
  generalize (jtb j).getD i.toNat 0 = ch at hc ⊢
  refine W.zret hx hb hr ?_ (fun t ht hW => ⟨rfl, ht⟩) (fun q hq => by cases hq) d_String_charAt_15
  have : ∀ c : Nat, c ≤ 122 → narrow .char (.int (Int32.ofInt (c : Int))) = .int (Int32.ofInt (c : Int)) := by decide +kernel
  exact this ch hc
section SV
variable {C : jC} {d mc ms : Nat} {m : jM} {RT : Int → jG → jH → Prop} {ls : List (Option jV)} {st : List jV} {G : jG} {σ : jH} {cs ss : Nat} {pc : Nat} {len a b w : Nat} {z : Int} {ps : List Nat} {mm : jM}
theorem jtb_lt {j : Nat} {i : Int} (h0 : 0 ≤ i) (h : i < (((jtb j).length : Nat) : Int)) : j < jtxs.length := by
  refine Nat.lt_of_not_le (fun q => ?_)
  have : jtb j = [] := by
    unfold jtb
    rw [List.getD_eq_getElem?_getD, List.getElem?_eq_none q]
    rfl
  rw [this] at h
  simp at h
  omega
theorem s_text {i : Nat} (hw : w = 2 ∨ w = 3) (ho : okB m pc (.invokevirtual i, len, a, b, w, z, ps, mm) = true) (h : jstep C d mc ms RT (Ev C d mc ms m RT) (.invokevirtual i, len, a, b, w, z, ps, mm) pc ls st G σ cs ss) : Ev C d mc ms m RT pc ls st G σ cs ss := by
  intro p e R s mi args below meth c E Q H locs lc X
  have hd := okB_d ho
  have hi := okB_i ho
  have hn : len = 3 := by
    simp only [okB, Bool.and_eq_true, decide_eq_true_eq, jlen] at ho
    exact of_decide_eq_true ho.1.2
  subst hn
  simp only [okI] at hi
  simp only [jstep] at h
  rcases hw with rfl | rfl
  · simp only [Bool.and_eq_true, decide_eq_true_eq] at hi
    obtain ⟨rfl, hps⟩ := hi
    have hts := fun w hw => jchk_in hps w hw
    simp only at h
    split at h
    · rename_i j r hble
      obtain ⟨hj, hd9, hk⟩ := h
      have hsw : ((List.map (cv E) r).map fun v => v.category).sum ≤ 8 := jsw_le (E := E) (Nat.le_of_ble_eq_true hble)
      have hR := X.rm
      have hle := txt_le (j := j)
      have hG : GoodIn jTB (wsV m.1.cls i m_String_length.1.cls m_String_length.1 (jws m_String_length)) := jgoodV (hts _ (by simp)) (hts _ (by simp)) (hts _ (by simp)) (hts _ (by simp)) (hts _ (by simp))
      exact j_calls (va_runV (As := []) (rest := r.map (cv E)) X.fix (c_length C.1 E 0 j hj) (cwV 0 X.hts hG rfl rfl rfl (by decide +kernel) (by rw [hR]; exact jroom_fit (by omega) (by decide))) ⟨jsblind, vk_recv X.stat.2.2.2.1 hj X.S, (jspre X.stat X.S).2⟩ rfl rfl X.hl.1 rfl (lv_room hsw) hd ⟨by rw [hR]; exact X.2.2.2.2.2.2.2.1, by rw [hR]; exact X.2.2.2.2.2.2.2.2⟩) (X.go hk (st_ok1 (by show r32 _; unfold r32; omega) (st_tl X.hok)))
    · exact h.elim
  · simp only [Bool.and_eq_true, decide_eq_true_eq] at hi
    obtain ⟨rfl, hps⟩ := hi
    have hts := fun w hw => jchk_in hps w hw
    simp only at h
    split at h
    · rename_i i9 j r hble
      obtain ⟨hd9, h0, h1, hk⟩ := h
      have hj := jtb_lt h0 h1
      have hsw : ((List.map (cv E) r).map fun v => v.category).sum ≤ 8 := jsw_le (E := E) (Nat.le_of_ble_eq_true hble)
      have hR := X.rm
      have hch := txt_ch (j := j) (k := i9.toNat)
      have hG : GoodIn jTB (wsV m.1.cls i m_String_charAt.1.cls m_String_charAt.1 (jws m_String_charAt)) := jgoodV (hts _ (by simp)) (hts _ (by simp)) (hts _ (by simp)) (hts _ (by simp)) (hts _ (by simp))
      exact j_calls (va_runV (As := [.int (Int32.ofInt i9)]) (rest := r.map (cv E)) X.fix (c_charAt C.1 E 0 j i9 hj h0 h1) (cwV 1 X.hts hG rfl rfl rfl (by decide +kernel) (by rw [hR]; exact jroom_fit (by omega) (by decide))) ⟨jsblind, vk_recv X.stat.2.2.2.1 hj X.S, (jspre X.stat X.S).2⟩ rfl rfl X.hl.1 rfl (lv_room hsw) hd ⟨by rw [hR]; exact X.2.2.2.2.2.2.2.1, by rw [hR]; exact X.2.2.2.2.2.2.2.2⟩) (X.go hk (st_ok1 (by show r32 _; unfold r32; omega) (st_tl (st_tl X.hok))))
    · exact h.elim
end SV
