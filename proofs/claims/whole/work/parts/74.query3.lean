/-! Queries: the class's answers -/
def CFR (σ : jH) (ω : Int → Int) : Prop := OKW ω ∧ IML σ 3 ω ∧ (σ 97 0 ≠ 0 → CDR σ ω)
/-- at most the book has been made -/
def FRQ (σ τ : jH) (ω : Int → Int) : Prop := FRB σ τ ∧ (τ = σ ∨ (τ 97 0 ≠ 0 ∧ CDR τ ω))
theorem FRQ.rf {σ : jH} {ω : Int → Int} : FRQ σ σ ω := ⟨fun _ _ => rfl, Or.inl rfl⟩
theorem FRQ.tr {σ τ υ : jH} {ω : Int → Int} (h : FRQ σ τ ω) (h' : FRQ τ υ ω) : FRQ σ υ ω := by
  refine ⟨fun c hc => (h'.1 c hc).trans (h.1 c hc), ?_⟩
  rcases h'.2 with e | e
  · rw [e]
    exact h.2
  · exact Or.inr e
theorem CFR.of {σ τ : jH} {ω : Int → Int} (C : CFR σ ω) (h : FRQ σ τ ω) : CFR τ ω := by
  refine ⟨C.1, IML_eq (fun c a b => h.1 c (by omega)) C.2.1, fun q => ?_⟩
  rcases h.2 with e | e
  · rw [e] at q ⊢
    exact C.2.2 q
  · exact e.2
section CQ
variable {l : Launch} {d : Nat} {ω : Int → Int} {σ : jH}
theorem i3 : isImage 3 := Or.inl rfl
/-- the book is made -/
def FRS (σ τ : jH) (ω : Int → Int) : Prop := FRQ σ τ ω ∧ τ 97 0 ≠ 0 ∧ CDR τ ω
theorem fresh_of {τ : jH} (C : CFR σ ω) (h : (σ 97 0 ≠ 0 ∧ τ = σ) ∨ ((∃ n, BKD τ ω n) ∧ τ 97 0 ≠ 0 ∧ FRB σ τ)) : FRS σ τ ω := by
  rcases h with ⟨h1, h2⟩ | ⟨⟨n, h1⟩, h2, h3⟩
  · rw [h2]
    exact ⟨FRQ.rf, h1, C.2.2 h1⟩
  · exact ⟨⟨h3, Or.inr ⟨h2, h1.cdr C.1⟩⟩, h2, h1.cdr C.1⟩
theorem c_has {b n : Int} (hW : isWords b) (h : σ b 0 = n) (hn : n ≤ 300) (p : Int) : Cw 10 m_Words_has [vR b, vI p] σ (fun z τ => z = (if 0 ≤ p ∧ p < n then 1 else 0) ∧ τ = σ) := by
  refine Cw_of o_Words_has rfl fun l d hd => jwp_sound t_Words_has _ (b_Words_has_0 ?_)
  simp only [RW, true_and, and_true, and_self, true_or, or_true, Nat.reduceLeDiff, Nat.reduceEqDiff, Nat.reduceAdd, Int.reduceLE, Int.reduceLT, Int.reduceEq, Int.reduceNeg, Int.reduceNe, Nat.reduceSub, reduceIte, implies_true, wd_t hW, wd_r1 hW, wd_t1 hW, wd_r2 hW, wd_t2 hW, wd_r3 hW, wd_t3 hW, wd_r4 hW, wd_t4 hW, wd_r5 hW, wd_t5 hW, wd_r6 hW, wd_t6 hW, wd_r7 hW, wd_t7 hW, wd_r8 hW, wd_t8 hW, wd_r10 hW, wd_t10 hW, wd_r11 hW, wd_t11 hW, wd_r12 hW, wd_t12 hW, wd_r13 hW, wd_t13 hW]
  rw [h]
  first | grind | exact ⟨fun q => by rw [if_neg (by omega)], fun q => ⟨fun q2 => by rw [if_neg (by omega)], fun q2 => ⟨fun q3 => absurd q3 (by omega), fun q3 => by rw [if_pos ⟨q, q2⟩]⟩⟩⟩
theorem c_Book_has {n : Int} (h : σ 97 1 = n) (hn : n ≤ 600) (p : Int) : Cw 10 m_Book_has [vR 97, vI p] σ (fun z τ => z = (if 0 ≤ p ∧ p < n then 1 else 0) ∧ τ = σ) := by
  refine Cw_of o_Book_has rfl fun l d hd => jwp_sound t_Book_has _ (b_Book_has_0 ?_)
  simp only [RW, true_and, and_true, and_self, true_or, or_true, Nat.reduceLeDiff, Nat.reduceEqDiff, Nat.reduceAdd, Int.reduceLE, Int.reduceLT, Int.reduceEq, Int.reduceNeg, Int.reduceNe, Nat.reduceSub, reduceIte, implies_true, gt_97]
  rw [h]
  first | grind | exact ⟨fun q => by rw [if_neg (by omega)], fun q => ⟨fun q2 => by rw [if_neg (by omega)], fun q2 => ⟨fun q3 => absurd q3 (by omega), fun q3 => by rw [if_pos ⟨q, q2⟩]⟩⟩⟩
theorem c_freshBook (C : CFR σ ω) : Cw 15 m_WordPlaces_freshBook [vR 1] σ (fun z τ => z = 97 ∧ FRS σ τ ω) := by
  refine Cw_of o_WordPlaces_freshBook rfl fun l d hd => jwp_sound t_WordPlaces_freshBook _ (b_WordPlaces_freshBook_0 ?_)
  simp only [RW, true_and, and_true, and_self, true_or, or_true, Nat.reduceLeDiff, Nat.reduceEqDiff, Nat.reduceAdd, Int.reduceLE, Int.reduceLT, Int.reduceEq, Int.reduceNeg, Int.reduceNe, Nat.reduceSub, reduceIte, implies_true, gt_1, gr_1_2, gt_3, gr_1_5, gt_97]
  refine cN_w (c_refresh i3 C.1 C.2.1) (by omega) (fun _ τ h => fresh_of C h)
theorem c_wordsOf (e : Int) (σ : jH) : Cw 10 m_Book_wordsOf [vR 97, vI e] σ (fun z τ => z = (if e = 0 then 105 else 120) ∧ τ = σ) := by
  refine Cw_of o_Book_wordsOf rfl fun l d hd => jwp_sound t_Book_wordsOf _ (b_Book_wordsOf_0 ?_)
  simp only [RW, true_and, and_true, and_self, true_or, or_true, Nat.reduceLeDiff, Nat.reduceEqDiff, Nat.reduceAdd, Int.reduceLE, Int.reduceLT, Int.reduceEq, Int.reduceNeg, Int.reduceNe, Nat.reduceSub, reduceIte, implies_true, gt_97, gr_97_5, gt_105, gr_97_6, gt_120]
  grind
theorem c_freshWords (C : CFR σ ω) {e : Int} (he : 0 ≤ e ∧ e ≤ 1) : Cw 15 m_WordPlaces_freshWords [vR 1, vI e] σ (fun z τ => z = wb e ∧ FRS σ τ ω) := by
  refine Cw_of o_WordPlaces_freshWords rfl fun l d hd => jwp_sound t_WordPlaces_freshWords _ (b_WordPlaces_freshWords_0 ?_)
  simp only [RW, true_and, and_true, and_self, true_or, or_true, Nat.reduceLeDiff, Nat.reduceEqDiff, Nat.reduceAdd, Int.reduceLE, Int.reduceLT, Int.reduceEq, Int.reduceNeg, Int.reduceNe, Nat.reduceSub, reduceIte, implies_true, gt_1, gr_1_2, gt_3, gr_1_5, gt_97]
  refine cN_w (c_refresh i3 C.1 C.2.1) (by omega) (fun _ τ h => ?_)
  refine cN_p (c_wordsOf _ _) (by omega) ?_
  refine ⟨?_, fresh_of C h⟩
  unfold wb
  split <;> omega
theorem CDR.W (H : CDR σ ω) {e : Int} (he : 0 ≤ e ∧ e ≤ 1) : CWD σ (wb e) (fo ω) (wW ω e) (wW ω e).1 ∧ (∀ p, 0 ≤ p → p < (wW ω e).1 → σ (wb e + 7) p = dw ω e p) ∧ (∀ f, 0 ≤ f → f < 600 → σ (wb e + 8) f = cq (dw ω e) (wW ω e).1.toNat f) ∧ (∀ f, 0 ≤ f → f < 600 → σ (wb e + 10) f = sq (cq (dw ω e) (wW ω e).1.toNat) f.toNat) ∧ (∀ p, 0 ≤ p → p < (wW ω e).1 → σ (wb e + 9) (lpl (dw ω e) (wW ω e).1.toNat p) = p) ∧ σ (wb e) 9 = sq (fun f => if 0 < cq (dw ω e) (wW ω e).1.toNat f then 1 else 0) 600 := H.2.2.2.2.1 e he.1 he.2
theorem OKW.n (W : OKW ω) {e : Int} (he : 0 ≤ e ∧ e ≤ 1) : 0 ≤ (wW ω e).1 ∧ (wW ω e).1 ≤ 300 ∧ LOK ω e := by
  refine ⟨wW_0 ω e, ?_⟩
  have : e = 0 ∨ e = 1 := by omega
  rcases this with rfl | rfl
  · exact ⟨W.2.2.2.2.1, W.1⟩
  · exact ⟨W.2.2.2.2.2, W.2.1⟩
theorem CDR.dw (H : CDR σ ω) {e p : Int} (he : 0 ≤ e ∧ e ≤ 1) (h0 : 0 ≤ p) (h1 : p < (wW ω e).1) : 0 ≤ dw ω e p ∧ dw ω e p < dn ω ∧ dF ω (dw ω e p) = KEY ω e p := H.1.2.2.2.1 e p he.1 he.2 h0 h1
theorem CDR.n (H : CDR σ ω) : 0 ≤ dn ω ∧ dn ω ≤ 600 ∧ σ 97 1 = dn ω := ⟨H.1.1, H.2.1, H.2.2.1⟩
theorem cq_out (H : CDR σ ω) (W : OKW ω) {e f : Int} (he : 0 ≤ e ∧ e ≤ 1) (hf : f < 0 ∨ dn ω ≤ f) : cq (dw ω e) (wW ω e).1.toNat f = 0 := by
  have w := W.n he
  have key : ∀ n : Nat, (n : Int) ≤ (wW ω e).1 → cq (dw ω e) n f = 0 := by
    intro n
    induction n with
    | zero => intro _; rfl
    | succ n ih =>
      intro h
      have x := H.dw he (p := n) (by omega) (by omega)
      show cq (dw ω e) n f + (if dw ω e n = f then 1 else 0) = 0
      rw [ih (by omega), if_neg (by omega)]
      omega
  exact key _ (by omega)
theorem sq_more {g : Int → Int} (a : Nat) : ∀ n : Nat, (∀ k : Int, a ≤ k → k < a + n → g k = 0) → sq g (a + n) = sq g a
  | 0, _ => rfl
  | n + 1, h => by
    show sq g (a + n) + g ((a + n : Nat) : Int) = sq g a
    rw [sq_more a n (fun k x y => h k x (by omega)), h _ (by omega) (by omega)]
    omega
theorem dif_600 (H : CDR σ ω) (W : OKW ω) {e : Int} (he : 0 ≤ e ∧ e ≤ 1) : σ (wb e) 9 = dif ω e := by
  have N := H.n
  rw [(H.W he).2.2.2.2.2]
  have := sq_more (g := fun f => if 0 < cq (dw ω e) (wW ω e).1.toNat f then 1 else 0) (dn ω).toNat (600 - (dn ω).toNat) (fun k a b => by
    show (if 0 < cq (dw ω e) (wW ω e).1.toNat k then (1 : Int) else 0) = 0
    rw [cq_out H W he (by omega), if_neg (by omega)])
  rw [show (dn ω).toNat + (600 - (dn ω).toNat) = 600 by omega] at this
  exact this
theorem c_forms (C : CFR σ ω) : Cw 16 m_WordPlaces_forms [vR 1] σ (fun z τ => z = dn ω ∧ FRQ σ τ ω) := by
  refine Cw_of o_WordPlaces_forms rfl fun l d hd => jwp_sound t_WordPlaces_forms _ (b_WordPlaces_forms_0 ?_)
  simp only [RW, true_and, and_true, and_self, true_or, or_true, Nat.reduceLeDiff, Nat.reduceEqDiff, Nat.reduceAdd, Int.reduceLE, Int.reduceLT, Int.reduceEq, Int.reduceNeg, Int.reduceNe, Nat.reduceSub, reduceIte, implies_true, gt_1]
  refine cN_w (c_freshBook C) (by omega) (fun z τ h => ?_)
  obtain ⟨rfl, h⟩ := h
  simp only [RW, true_and, and_true, and_self, true_or, or_true, Nat.reduceLeDiff, Nat.reduceEqDiff, Nat.reduceAdd, Int.reduceLE, Int.reduceLT, Int.reduceEq, Int.reduceNeg, Int.reduceNe, Nat.reduceSub, reduceIte, implies_true, gt_97, gr_97_2, gr_97_3, gr_97_4, gr_97_5, gr_97_6]
  exact ⟨h.2.2.n.2.2, h.1⟩
theorem c_ordered (C : CFR σ ω) (i : Int) : Cw 16 m_WordPlaces_ordered [vR 1, vI i] σ (fun z τ => z = s_ordered ω i ∧ FRQ σ τ ω) := by
  refine Cw_of o_WordPlaces_ordered rfl fun l d hd => jwp_sound t_WordPlaces_ordered _ (b_WordPlaces_ordered_0 ?_)
  simp only [RW, true_and, and_true, and_self, true_or, or_true, Nat.reduceLeDiff, Nat.reduceEqDiff, Nat.reduceAdd, Int.reduceLE, Int.reduceLT, Int.reduceEq, Int.reduceNeg, Int.reduceNe, Nat.reduceSub, reduceIte, implies_true, gt_1]
  refine cN_w (c_freshBook C) (by omega) (fun z τ h => ?_)
  obtain ⟨rfl, h⟩ := h
  have N := h.2.2.n
  simp only [RW, true_and, and_true, and_self, true_or, or_true, Nat.reduceLeDiff, Nat.reduceEqDiff, Nat.reduceAdd, Int.reduceLE, Int.reduceLT, Int.reduceEq, Int.reduceNeg, Int.reduceNe, Nat.reduceSub, reduceIte, implies_true, gt_97, gr_97_2, gr_97_3, gr_97_4, gr_97_5, gr_97_6, gt_101]
  refine cN_p (c_Book_has N.2.2 (by omega) i) (by omega) ?_
  unfold s_ordered
  by_cases q : 0 ≤ i ∧ i < dn ω
  · rw [if_pos q, if_pos q]
    exact ⟨fun x => by omega, fun _ => ⟨by omega, by omega, h.2.2.2.2.2.2.2 i q.1 q.2, h.1⟩⟩
  · rw [if_neg q, if_neg q]
    exact ⟨fun _ => ⟨rfl, h.1⟩, fun x => absurd rfl x⟩
theorem c_edition (C : CFR σ ω) (e what : Int) : Cw 16 m_WordPlaces_edition [vR 1, vI e, vI what] σ (fun z τ => z = s_edition ω e what ∧ FRQ σ τ ω) := by
  refine Cw_of o_WordPlaces_edition rfl fun l d hd => jwp_sound t_WordPlaces_edition _ (b_WordPlaces_edition_0 ?_)
  simp only [RW, true_and, and_true, and_self, true_or, or_true, Nat.reduceLeDiff, Nat.reduceEqDiff, Nat.reduceAdd, Int.reduceLE, Int.reduceLT, Int.reduceEq, Int.reduceNeg, Int.reduceNe, Nat.reduceSub, reduceIte, implies_true, gt_1, gr_1_2, gt_3]
  refine cN_p (c_isEdition _ _) (by omega) ?_
  unfold s_edition
  by_cases he : 0 ≤ e ∧ e ≤ 1
  · have w := C.1.n he
    have hl : LIN σ 3 ω e := by
      have : e = 0 ∨ e = 1 := by omega
      rcases this with rfl | rfl
      · exact C.2.1.1
      · exact C.2.1.2.1
    rw [if_pos he, if_pos he]
    refine ⟨fun _ => ⟨fun q => ⟨by rw [if_neg (by omega), if_neg (by omega), if_neg (by omega)], FRQ.rf⟩, fun q => ?_, fun q => ?_, fun q => ?_⟩, fun q => by omega⟩
    · refine cN_p (c_Image_lineCount _ i3 he) (by omega) ?_
      rw [if_pos q, hl.1]
      exact ⟨rfl, FRQ.rf⟩
    · refine cN_p (c_Image_wordCount _ i3 he w.2.2 hl) (by omega) ?_
      rw [if_neg (by omega), if_pos q]
      exact ⟨rfl, FRQ.rf⟩
    · refine cN_w (c_freshWords C he) (by omega) (fun z τ h => ?_)
      obtain ⟨rfl, h⟩ := h
      simp only [wd_t (wb_i he)]
      rw [if_neg (by omega), if_neg (by omega), if_pos q]
      exact ⟨trivial, dif_600 h.2.2 C.1 he, h.1⟩
  · rw [if_neg he, if_neg he]
    exact ⟨fun q => absurd rfl q, fun _ => ⟨rfl, FRQ.rf⟩⟩
theorem c_word (C : CFR σ ω) (e p what : Int) : Cw 16 m_WordPlaces_word [vR 1, vI e, vI p, vI what] σ (fun z τ => z = s_word ω e p what ∧ FRQ σ τ ω) := by
  refine Cw_of o_WordPlaces_word rfl fun l d hd => jwp_sound t_WordPlaces_word _ (b_WordPlaces_word_0 ?_)
  simp only [RW, true_and, and_true, and_self, true_or, or_true, Nat.reduceLeDiff, Nat.reduceEqDiff, Nat.reduceAdd, Int.reduceLE, Int.reduceLT, Int.reduceEq, Int.reduceNeg, Int.reduceNe, Nat.reduceSub, reduceIte, implies_true, gt_1]
  refine cN_p (c_isEdition _ _) (by omega) ?_
  unfold s_word
  by_cases he : 0 ≤ e ∧ e ≤ 1
  · have w := C.1.n he
    have hW := wb_i he
    rw [if_pos he]
    refine ⟨fun _ => ?_, fun q => by omega⟩
    refine cN_w (c_freshWords C he) (by omega) (fun z τ h => ?_)
    obtain ⟨rfl, h⟩ := h
    have T := h.2.2.W he
    simp only [RW, true_and, and_true, and_self, true_or, or_true, Nat.reduceLeDiff, Nat.reduceEqDiff, Nat.reduceAdd, Int.reduceLE, Int.reduceLT, Int.reduceEq, Int.reduceNeg, Int.reduceNe, Nat.reduceSub, reduceIte, implies_true, wd_t hW, wd_r1 hW, wd_t1 hW, wd_r2 hW, wd_t2 hW, wd_r3 hW, wd_t3 hW, wd_r4 hW, wd_t4 hW, wd_r5 hW, wd_t5 hW, wd_r6 hW, wd_t6 hW, wd_r7 hW, wd_t7 hW, wd_r8 hW, wd_t8 hW, wd_r10 hW, wd_t10 hW, wd_r11 hW, wd_t11 hW, wd_r12 hW, wd_t12 hW, wd_r13 hW, wd_t13 hW]
    refine cN_p (c_has hW T.1.1 w.2.1 p) (by omega) ?_
    by_cases qq : 0 ≤ p ∧ p < (wW ω e).1
    case neg =>
      rw [if_neg qq, if_neg (fun x => qq x.2)]
      exact ⟨fun x => absurd rfl x, fun _ => ⟨rfl, h.1⟩⟩
    obtain ⟨q, q2⟩ := qq
    obtain ⟨c1, c2, c3⟩ := T.1.2.1 p q q2
    rw [if_pos (show 0 ≤ p ∧ p < (wW ω e).1 from ⟨q, q2⟩), if_pos ⟨he, q, q2⟩]
    refine ⟨fun _ => ?_, fun x => by omega⟩
    refine ⟨fun a => ⟨by rw [if_neg (by omega), if_neg (by omega), if_neg (by omega), if_neg (by omega)], h.1⟩, fun a => ⟨by omega, by omega, ?_, h.1⟩, fun a => ⟨by omega, by omega, ?_, h.1⟩, fun a => ⟨by omega, by omega, ?_, h.1⟩, fun a => ⟨by omega, by omega, ?_, h.1⟩⟩
    · rw [if_pos a]
      exact T.2.1 p q q2
    · rw [if_neg (by omega), if_pos a]
      exact c1
    · rw [if_neg (by omega), if_neg (by omega), if_pos a]
      exact c2
    · rw [if_neg (by omega), if_neg (by omega), if_neg (by omega), if_pos a]
      exact c3
  · rw [if_neg he, if_neg (fun x => he x.1)]
    exact ⟨fun q => absurd rfl q, fun _ => ⟨rfl, FRQ.rf⟩⟩
end CQ
