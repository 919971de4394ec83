/-! The class: lines cut into words -/
section CL
variable {l : Launch} {d : Nat} {o b e : Int} {ω : Int → Int} {σ : jH}
def STC (σ τ : jH) (b : Int) (ω : Int → Int) (s : wS) (m : Int) : Prop := CWD τ b (fo ω) s m ∧ FRW σ τ b
theorem STC.eq {τ : jH} {s : wS} {m c : Int} (h : STC σ τ b ω s m) (hc : c < b) : τ c = σ c := h.2 c (Or.inl hc)
-- a run, from its first byte
theorem l_cl_61 {i k : Nat} {to : Int} (hd : 12 ≤ d) (hI : isImage o) (hW : isWords b) (he : 0 ≤ e ∧ e ≤ 1) (L : LOK ω e) (H : LIN σ o ω e) (hF : ∀ x, 0 ≤ x → x < 26 → σ (o + 2) x = fo ω x) (hφ : okρ (fo ω)) (hi : (i : Int) < ω (3 + e)) (hE : RE ω e i k to) (hk : isL (bt ω e i k)) (hks : k = 0 ∨ ¬ isL (bt ω e i ((k : Int) - 1)))
    (N : ∀ τ, STC σ τ b ω (wln ω e i (to + 1).toNat (wal ω e i)) (wln ω e i (to + 1).toNat (wal ω e i)).1 → Ev (l, (fun _ => 0), 0) d 0 0 m_Words_cutLine (RW fun x τ => x = b2i (wal ω e (i + 1)).2.1 ∧ STC σ τ b ω (wal ω e (i + 1)) (wal ω e (i + 1)).1) 30 [some (vR b), some (vR o), none, some (vI i), none, some (vI (b2i (icut ω e i))), some (vI ((40 * e + i) * 60 + to)), some (vI ((40 * e + i) * 60 + ω (lA e i))), some (vI (b2i (cutA ω e i to)))] [] gW τ 0 0) :
    ∀ (n : Nat) (x : Int) (τ : jH) (S : wS), to - x ≤ n → k ≤ x → x ≤ to → STC σ τ b ω S (S.1 - 1) → ((x = k ∧ S = (if (wln ω e i k (wal ω e i)).2.1 = true then wln ω e i k (wal ω e i) else wnew i (wln ω e i k (wal ω e i)))) ∨ (k < x ∧ S = wln ω e i x.toNat (wal ω e i))) → 1 ≤ S.1 → S.1 ≤ 300 → wok S →
    Ev (l, (fun _ => 0), 0) d 0 0 m_Words_cutLine (RW fun x τ => x = b2i (wal ω e (i + 1)).2.1 ∧ STC σ τ b ω (wal ω e (i + 1)) (wal ω e (i + 1)).1) 59 [some (vR b), some (vR o), none, some (vI i), none, some (vI (b2i (icut ω e i))), some (vI ((40 * e + i) * 60 + x)), some (vI ((40 * e + i) * 60 + ω (lA e i))), none] [] gW τ 0 0 := by
  skip
  skip
  have hob : o + 22 < b := by unfold isImage at hI; unfold isWords at hW; omega
  obtain ⟨L1, L2, L3⟩ := L
  obtain ⟨L4, L5⟩ := L3 i (by omega) hi
  obtain ⟨H1, H2⟩ := H
  obtain ⟨a1, a2, a3, a4⟩ := H2 i (by omega) hi
  have hto : to ≤ ω (lA e i) := by
    by_cases q : to ≤ ω (lA e i)
    · exact q
    · have h1 := hE.2.2 (to - 1) (by have := bt_nl hk; omega) (by omega)
      have := bt_nl h1
      omega
  have hkt : (k : Int) < to := by
    by_cases q : (k : Int) < to
    · exact q
    · have e1 : (k : Int) = to := by have := hE.1; omega
      exact absurd (e1 ▸ hk) hE.2.1
  have byte : ∀ (τ : jH) (x : Int), τ (o + 15) = σ (o + 15) → 0 ≤ x → x < ω (lA e i) → τ (o + 15) ((40 * e + i) * 60 + x) = bt ω e i x := by
    intro τ x ht x0 x1
    rw [ht, a2 x x0 x1]
    unfold bt
    rw [if_pos x1]
  -- the run's end
  have fin : ∀ (τ : jH) (S : wS), STC σ τ b ω S (S.1 - 1) → S = wln ω e i to.toNat (wal ω e i) → 1 ≤ S.1 → S.1 ≤ 300 →
      Ev (l, (fun _ => 0), 0) d 0 0 m_Words_cutLine (RW fun x τ => x = b2i (wal ω e (i + 1)).2.1 ∧ STC σ τ b ω (wal ω e (i + 1)) (wal ω e (i + 1)).1) 100 [some (vR b), some (vR o), none, some (vI i), none, some (vI (b2i (icut ω e i))), some (vI ((40 * e + i) * 60 + to)), some (vI ((40 * e + i) * 60 + ω (lA e i))), none] [] gW τ 0 0 := by
    intro τ S X hS h1 h2
    have hst : wln ω e i (to + 1).toNat (wal ω e i) = wend (cutA ω e i to) S := by
      rw [show (to + 1).toNat = to.toNat + 1 by omega]
      show wst ω e i ((to.toNat : Nat) : Int) (wln ω e i to.toNat (wal ω e i)) = _
      rw [← hS, show ((to.toNat : Nat) : Int) = to by omega]
      unfold wst
      rw [if_neg hE.2.1, if_pos ⟨by omega, hE.2.2 (to - 1) (by omega) (by omega)⟩]
    have hcA := cutA_iff (ω := ω) (e := e) (i := i) (k := to) (hE.2.2 (to - 1) (by omega) (by omega)) (by omega)
    have fl : ∀ z : Int, z = b2i (cutA ω e i to) → Ev (l, (fun _ => 0), 0) d 0 0 m_Words_cutLine (RW fun x τ => x = b2i (wal ω e (i + 1)).2.1 ∧ STC σ τ b ω (wal ω e (i + 1)) (wal ω e (i + 1)).1) 119 [some (vR b), some (vR o), none, some (vI i), none, some (vI (b2i (icut ω e i))), some (vI ((40 * e + i) * 60 + to)), some (vI ((40 * e + i) * 60 + ω (lA e i))), none] [vI z] gW τ 0 0 := by
      intro z hz
      subst hz
      have hU := isImage_r hI
      refine jwp_sound t_Words_cutLine _ (b_Words_cutLine_119 ?_)
      simp only [RW, true_and, and_true, and_self, true_or, or_true, Nat.reduceLeDiff, Nat.reduceEqDiff, Nat.reduceAdd, Int.reduceLE, Int.reduceLT, Int.reduceEq, Int.reduceNeg, Int.reduceNe, Nat.reduceSub, reduceIte, implies_true, im_t hI, im_r0 hI, im_t0 hI, im_r1 hI, im_t1 hI, im_r2 hI, im_t2 hI, im_r3 hI, im_t3 hI, im_r4 hI, im_t4 hI, im_r5 hI, im_t5 hI, im_r6 hI, im_t6 hI, wd_t hW, wd_r1 hW, wd_t1 hW, wd_r2 hW, wd_t2 hW, wd_r3 hW, wd_t3 hW, wd_r4 hW, wd_t4 hW, wd_r5 hW, wd_t5 hW, wd_r6 hW, wd_t6 hW, wd_r7 hW, wd_t7 hW, wd_r8 hW, wd_t8 hW, wd_r10 hW, wd_t10 hW, wd_r11 hW, wd_t11 hW, wd_r12 hW, wd_t12 hW, wd_r13 hW, wd_t13 hW, ru_t hU, ru_r1 hU, ru_t1 hU, ru_r2 hU, ru_t2 hU, ru_r4 hU, ru_t4 hU, ru_r6 hU, ru_t6 hU, ru_r8 hU, ru_t8 hU, ru_r9 hU, ru_t9 hU, ru_r10 hU, ru_t10 hU]
      refine cN_w (c_endRun (c := cutA ω e i to) (φ := fo ω) hW (ru_t1 hU) (fun x x0 x1 => ?_) (by omega) hφ X.1 h1 h2) (by omega) (fun _ υ U => ?_)
      · rw [X.eq (by omega), show o + 1 + 1 = o + 2 by omega]
        exact hF x x0 x1
      · have := N υ (by rw [hst]; exact ⟨U.1, X.2.tr U.2⟩)
        exact this
    refine jwp_sound t_Words_cutLine _ (b_Words_cutLine_100 ?_)
    rw [w32_of (by omega) (by omega)]
    refine ⟨fun q => fl 0 ?_, fun q => ⟨fun q2 => fl 0 ?_, fun q2 => fl 1 ?_⟩⟩
    · have : cutA ω e i to = false := by
        cases hz : cutA ω e i to
        · rfl
        · have := (hcA.mp hz).1
          omega
      rw [this]
      rfl
    · have : cutA ω e i to = false := by
        cases hz : cutA ω e i to
        · rfl
        · have := (hcA.mp hz).2
          rw [this] at q2
          cases q2
      rw [this]
      rfl
    · rw [hcA.mpr ⟨by omega, b2i_1.mp q2⟩]
      rfl
  intro n
  induction n with
  | zero =>
    intro x τ S hn hx1 hx2 X hS h1 h2 K
    have ex : x = to := by omega
    subst ex
    have hS : S = wln ω e i x.toNat (wal ω e i) := by
      rcases hS with hS | hS
      · omega
      · exact hS.2
    refine jwp_sound t_Words_cutLine _ (b_Words_cutLine_59 ?_)
    simp only [RW, true_and, and_true, and_self, true_or, or_true, Nat.reduceLeDiff, Nat.reduceEqDiff, Nat.reduceAdd, Int.reduceLE, Int.reduceLT, Int.reduceEq, Int.reduceNeg, Int.reduceNe, Nat.reduceSub, reduceIte, implies_true, im_t hI, im_r0 hI, im_t0 hI, im_r1 hI, im_t1 hI, im_r2 hI, im_t2 hI, im_r3 hI, im_t3 hI, im_r4 hI, im_t4 hI, im_r5 hI, im_t5 hI, im_r6 hI, im_t6 hI, wd_t hW, wd_r1 hW, wd_t1 hW, wd_r2 hW, wd_t2 hW, wd_r3 hW, wd_t3 hW, wd_r4 hW, wd_t4 hW, wd_r5 hW, wd_t5 hW, wd_r6 hW, wd_t6 hW, wd_r7 hW, wd_t7 hW, wd_r8 hW, wd_t8 hW, wd_r10 hW, wd_t10 hW, wd_r11 hW, wd_t11 hW, wd_r12 hW, wd_t12 hW, wd_r13 hW, wd_t13 hW]
    refine ⟨fun _ => fin τ S X hS h1 h2, fun q => ?_⟩
    refine cN_p (c_Image_byteAt _ hI (by omega) (by omega)) (by omega) ?_
    refine cN_p (c_isLetter _ _) (by omega) ?_
    rw [byte τ x (X.eq (by omega)) (by omega) (by omega), if_neg hE.2.1]
    exact ⟨fun _ => fin τ S X hS h1 h2, fun q => absurd rfl q⟩
  | succ n ih =>
    intro x τ S hn hx1 hx2 X hS h1 h2 K
    by_cases hxt : x = to
    · exact ih x τ S (by omega) hx1 hx2 X hS h1 h2 K
    · have hb := hE.2.2 x hx1 (by omega)
      have hbx := byte τ x (X.eq (by omega)) (by omega) (by omega)
      refine jwp_sound t_Words_cutLine _ (b_Words_cutLine_59 ?_)
      simp only [RW, true_and, and_true, and_self, true_or, or_true, Nat.reduceLeDiff, Nat.reduceEqDiff, Nat.reduceAdd, Int.reduceLE, Int.reduceLT, Int.reduceEq, Int.reduceNeg, Int.reduceNe, Nat.reduceSub, reduceIte, implies_true, im_t hI, im_r0 hI, im_t0 hI, im_r1 hI, im_t1 hI, im_r2 hI, im_t2 hI, im_r3 hI, im_t3 hI, im_r4 hI, im_t4 hI, im_r5 hI, im_t5 hI, im_r6 hI, im_t6 hI, wd_t hW, wd_r1 hW, wd_t1 hW, wd_r2 hW, wd_t2 hW, wd_r3 hW, wd_t3 hW, wd_r4 hW, wd_t4 hW, wd_r5 hW, wd_t5 hW, wd_r6 hW, wd_t6 hW, wd_r7 hW, wd_t7 hW, wd_r8 hW, wd_t8 hW, wd_r10 hW, wd_t10 hW, wd_r11 hW, wd_t11 hW, wd_r12 hW, wd_t12 hW, wd_r13 hW, wd_t13 hW]
      refine ⟨fun q => absurd q (by omega), fun q => ?_⟩
      refine cN_p (c_Image_byteAt _ hI (by omega) (by omega)) (by omega) ?_
      refine cN_p (c_isLetter _ _) (by omega) ?_
      rw [hbx, if_pos hb]
      refine ⟨fun q => by omega, fun _ => ?_⟩
      refine cN_p (c_Image_byteAt _ hI (by omega) (by omega)) (by omega) ?_
      rw [hbx, w32_of (x := bt ω e i x - 97) (by omega) (by omega), w32_of (x := (40 * e + i) * 60 + x + 1) (by omega) (by omega)]
      refine cN_w (c_Key_add (isWords_k hW) (X.1.2.2.2.2 h1) (by omega) (by omega)) (by omega) (fun _ υ U => ?_)
      rw [show (40 * e + i) * 60 + x + 1 = (40 * e + i) * 60 + (x + 1) by omega]
      refine ih (x + 1) υ (wadd (bt ω e i x - 97) S) (by omega) (by omega) (by omega) ⟨cwd_add X.1 h1 U.1 U.2, X.2.tr (fun c hc => U.2 c (by omega))⟩ (Or.inr ⟨by omega, ?_⟩) h1 h2 (wadd_ok K h1 (by omega) (by omega))
      rw [show (x + 1).toNat = x.toNat + 1 by omega]
      show _ = wst ω e i ((x.toNat : Nat) : Int) (wln ω e i x.toNat (wal ω e i))
      rw [show ((x.toNat : Nat) : Int) = x by omega]
      unfold wst
      rw [if_pos hb]
      rcases hS with ⟨rfl, hS⟩ | ⟨hkx, hS⟩
      · rw [if_neg (fun q => by rcases hks with hks | hks; · omega
                                · exact hks q.2), hS]
        rw [show ((k : Int)).toNat = k by omega]
        split
        · rfl
        · rfl
      · rw [if_pos ⟨by omega, hE.2.2 (x - 1) (by omega) (by omega)⟩, hS]
end CL
