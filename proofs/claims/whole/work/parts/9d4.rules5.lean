/-! RULES are read: the class's ROOTS begun, the ORDER -/
/-- letters that have ranks: so many, each another one -/
def ONJ (ρ : Int → Int) (c : Int) : Prop := (∀ x, 0 ≤ x → x < 26 → ρ (31 + x) = -1 ∨ (0 ≤ ρ (31 + x) ∧ ρ (31 + x) < c)) ∧ (∀ x y, 0 ≤ x → x < 26 → 0 ≤ y → y < 26 → ρ (31 + x) ≠ -1 → ρ (31 + x) = ρ (31 + y) → x = y) ∧ c = sq (fun x => if ρ (31 + x) = -1 then 0 else 1) 26
theorem onj_0 {ρ : Int → Int} (h : ∀ x, 0 ≤ x → x < 26 → ρ (31 + x) = -1) : ONJ ρ 0 := by
  refine ⟨fun x a b => Or.inl (h x a b), fun x y a b _ _ q _ => absurd (h x a b) q, ?_⟩
  rw [sq_eq (h := fun _ => 0) (fun k a b => by show (if ρ (31 + k) = -1 then (0 : Int) else 1) = 0; rw [if_pos (h k a (by omega))])]
  rfl
theorem onj_s {ρ : Int → Int} {c x : Int} (x0 : 0 ≤ x) (x1 : x < 26) (h : ρ (31 + x) = -1) (O : ONJ ρ c) : ONJ (up ρ (31 + x) c) (c + 1) ∧ 0 ≤ c ∧ c < 26 := by
  obtain ⟨o1, o2, o3⟩ := O
  have e : ∀ y, y ≠ x → up ρ (31 + x) c (31 + y) = ρ (31 + y) := fun y hy => up_ne (by omega)
  have c0 : 0 ≤ c := by
    rw [o3]
    exact sq_0 (fun k => by split <;> omega) 26
  have s : sq (fun y => if up ρ (31 + x) c (31 + y) = -1 then 0 else 1) 26 = sq (fun y => if ρ (31 + y) = -1 then 0 else 1) 26 + 1 := by
    have := sq_up (g := fun y => if ρ (31 + y) = -1 then 0 else 1) (x := x) (v := 1) x0 (by show (if ρ (31 + x) = -1 then (0 : Int) else 1) = 0; rw [if_pos h]) 26
    rw [if_pos (by omega)] at this
    rw [← this]
    refine sq_eq (fun k a b => ?_)
    by_cases y : k = x
    · rw [if_pos y, y, up_self, if_neg (by omega)]
    · rw [if_neg y, e k y]
  have le := sq_le (g := fun y => if up ρ (31 + x) c (31 + y) = -1 then 0 else 1) (fun k => by split <;> omega) 26
  refine ⟨⟨fun y a b => ?_, fun y z a b a' b' q q2 => ?_, by omega⟩, c0, by omega⟩
  · by_cases g : y = x
    · rw [g, up_self]
      exact Or.inr ⟨c0, by omega⟩
    · rw [e y g]
      rcases o1 y a b with h | h
      · exact Or.inl h
      · exact Or.inr ⟨h.1, by omega⟩
  · by_cases g : y = x
    · by_cases g2 : z = x
      · omega
      · rw [g, up_self, e z g2] at q2
        rcases o1 z a' b' with h | h <;> omega
    · by_cases g2 : z = x
      · rw [g2, up_self, e y g] at q2
        rcases o1 y a b with h | h <;> omega
      · rw [e y g] at q q2
        rw [e z g2] at q2
        exact o2 y z a b a' b' q q2
theorem rOth_ok {ρ : Int → Int} {c : Int} (O : ONJ ρ c) : ∀ k : Nat, k ≤ 26 → ONJ (rOth c ρ k).2 (rOth c ρ k).1 ∧ (∀ j, (j < 31 ∨ 57 ≤ j) → (rOth c ρ k).2 j = ρ j) ∧ (∀ x, 0 ≤ x → x < (k : Int) → (rOth c ρ k).2 (31 + x) ≠ -1) ∧ ∀ x, (k : Int) ≤ x → (rOth c ρ k).2 (31 + x) = ρ (31 + x)
  | 0, _ => ⟨O, fun _ _ => rfl, fun x a b => by omega, fun _ _ => rfl⟩
  | k + 1, hk => by
    obtain ⟨h1, h2, h3, h4⟩ := rOth_ok O k (by omega)
    by_cases q : (rOth c ρ k).2 (31 + k) = -1
    · have e : rOth c ρ (k + 1) = ((rOth c ρ k).1 + 1, up (rOth c ρ k).2 (31 + k) (rOth c ρ k).1) := if_pos q
      obtain ⟨s1, s2, s3⟩ := onj_s (x := k) (by omega) (by omega) q h1
      rw [e]
      refine ⟨s1, fun j hj => ?_, fun x a b => ?_, fun x a => ?_⟩
      · show up (rOth c ρ k).2 (31 + k) (rOth c ρ k).1 j = _
        rw [up_ne (by omega)]
        exact h2 j hj
      · show up (rOth c ρ k).2 (31 + k) (rOth c ρ k).1 (31 + x) ≠ -1
        by_cases y : x = k
        · rw [y, up_self]
          omega
        · rw [up_ne (by omega)]
          exact h3 x a (by omega)
      · show up (rOth c ρ k).2 (31 + k) (rOth c ρ k).1 (31 + x) = _
        rw [up_ne (by omega)]
        exact h4 x (by omega)
    · have e : rOth c ρ (k + 1) = rOth c ρ k := if_neg q
      rw [e]
      refine ⟨h1, h2, fun x a b => ?_, fun x a => h4 x (by omega)⟩
      by_cases y : x = k
      · rw [y]
        exact q
      · exact h3 x a (by omega)
section R4
variable {l : Launch} {d : Nat} {t : Int → Int} {σ : jH} {n p : Int} {ρ : Int → Int} {ho : Bool}
theorem c_readRoot (T : TP σ t n) (K : TKC σ t n p) (hp : 0 ≤ p ∧ p ≤ n) (D : DRC σ ρ ho) (O : RRO ρ) (h20 : ρ 2 < 20) : Cw 14 m_RuleReader_readRoot [vR 141] σ (fun z τ => CRS σ τ t n (rRoot t n (tN t n p) ρ ho) z) := by
  have p1 := tN_in (t := t) hp
  have p2 := tN_in (t := t) p1
  have p3 := tN_in (t := t) p2
  have o3 := O.1.2.2.1
  refine Cw_of o_RuleReader_readRoot rfl fun l d hd => jwp_sound t_RuleReader_readRoot _ (b_RuleReader_readRoot_0 ?_)
  simp only [RW, true_and, and_true, and_self, true_or, or_true, Nat.reduceLeDiff, Nat.reduceEqDiff, Nat.reduceAdd, Int.reduceLE, Int.reduceLT, Int.reduceEq, Int.reduceNeg, Int.reduceNe, Nat.reduceSub, reduceIte, implies_true, gt_141, gr_141_0, gt_142, gr_141_1, gt_140, gr_142_6, gt_148, gr_142_8, gt_151, gr_142_9, gt_154]
  rw [D.1.2.1]
  refine cN_w (c_advance T K hp) (by omega) (fun _ τ1 h1 => ?_)
  obtain ⟨F1, K1⟩ := h1
  have T1 := T.eq (F1.1 2 (by omega))
  refine ⟨fun q => absurd q (by omega), fun _ => ⟨fun q => absurd q (by omega), fun _ => ?_⟩⟩
  refine cN_w (c_readWord (kr_Rules_6 isU) ⟨by omega, by omega⟩ ⟨o3.1, h20⟩ T1 K1 p1) (by omega) (fun z τ2 h2 => ?_)
  unfold rRoot
  have kb2 := fun B => RWP.kb h2 p1 (by omega) B
  rcases h2 with ⟨q, rfl, K2, kk, oth, F2, g6, g7⟩ | ⟨q, rfl, rfl⟩
  · refine ⟨fun _ => ?_, fun x => absurd x (by omega)⟩
    rw [if_neg (fun x => x q)]
    have T2 := T1.eq (F2 2 (by omega) (by omega) (by omega) (by omega))
    refine cN_p (c_is (w := 4) (by decide) T2 K2 p2) (by omega) ?_
    have FD2 : FRD σ τ2 := F1.frd.tr ⟨fun c a b => F2 c a (by omega) (by omega) (by omega), kb2⟩
    have G2 : τ2 142 0 = σ 142 0 ∧ τ2 140 6 = σ 140 6 ∧ τ2 140 7 = σ 140 7 := ⟨by rw [F2 142 (by omega) (by omega) (by omega) (by omega), F1.1 142 (by omega)], by rw [g6, F1.2 6 (by omega) (by omega) (by omega) (by omega)], by rw [g7, F1.2 7 (by omega) (by omega) (by omega) (by omega)]⟩
    cases a3 : tI t n (tN t n (tN t n p)) (jtb 4) with
    | false =>
      rw [if_pos rfl]
      refine ⟨fun x => absurd rfl x, fun _ => ?_⟩
      refine cN_p (c_fail 1 K2) (by omega) ?_
      exact ⟨Or.inl rfl, crs_pre FD2 G2.1 G2.2.1 G2.2.2 (crs_fail K2 1 (by omega))⟩
    | true =>
      rw [if_neg (by decide)]
      refine ⟨fun _ => ?_, fun x => absurd x (by decide)⟩
      refine cN_w (c_advance T2 K2 p2) (by omega) (fun _ τ3 h3 => ?_)
      obtain ⟨F3, K3⟩ := h3
      have A : WAT ρ (478 + 106 * ρ 2) := Or.inr (Int.le_refl _)
      have ra := wrd_at (ρ := ρ) (A := 478 + 106 * ρ 2) p1 q
      have D3 : DRC τ3 (wrd ρ (478 + 106 * ρ 2) t n (tN t n p)) ho := by
        have D1 := wrd_drc (t := t) (n := n) (p := tN t n p) D O A
        obtain ⟨⟨e1, e2, e3, e4⟩, e5, e6, e7, e8⟩ := D1
        have w2' : wrd ρ (478 + 106 * ρ 2) t n (tN t n p) 2 = ρ 2 := wrd_out (by omega)
        have Fa : ∀ c, 142 ≤ c → c ≤ 155 → c ≠ 149 → c ≠ 150 → τ3 c = σ c := fun c a b x y => by rw [F3.1 c (by omega), F2 c (by omega) (by omega) (by omega) (by omega), F1.1 c (by omega)]
        unfold DRC KKV
        rw [Fa 142 (by omega) (by omega) (by omega) (by omega), Fa 143 (by omega) (by omega) (by omega) (by omega), Fa 144 (by omega) (by omega) (by omega) (by omega), Fa 155 (by omega) (by omega) (by omega) (by omega), Fa (145 + 1) (by omega) (by omega) (by omega) (by omega), Fa (145 + 2) (by omega) (by omega) (by omega) (by omega), Fa 154 (by omega) (by omega) (by omega) (by omega), Fa (151 + 1) (by omega) (by omega) (by omega) (by omega), Fa (151 + 2) (by omega) (by omega) (by omega) (by omega)]
        refine ⟨⟨e1, e2, e3, e4⟩, e5, e6, e7, fun x x0 x1 => ?_⟩
        obtain ⟨g1, g2, g3⟩ := e8 x x0 x1
        rw [w2'] at x1
        refine ⟨g1, ?_, g3⟩
        rw [F3.1 _ (by omega), F3.1 _ (by omega), (oth x (by omega)).1, (oth x (by omega)).2, F1.1 _ (by omega), F1.1 _ (by omega)]
        exact g2
      have O3 := wrd_rro (t := t) (n := n) (p := tN t n p) O A
      have V3 : RTW (wrd ρ (478 + 106 * ρ 2) t n (tN t n p)) (ρ 2) ((0 : Nat) : Int) := fun i i0 i1 => by
        rw [show 478 + 106 * ρ 2 + 21 * i = 478 + 106 * ρ 2 by omega]
        exact ⟨ra.1, ra.2.2.1⟩
      have go := l_rr_72 (l := l) (σ := σ) (t := t) (ho := ho) hd T ⟨o3.1, h20⟩ 5 0 _ τ3 (wrd ρ (478 + 106 * ρ 2) t n (tN t n p)) rfl (by omega) (Or.inl rfl) p3 (FD2.tr F3.frd) ⟨by rw [F3.1 142 (by omega)]; exact G2.1, by rw [F3.2 6 (by omega) (by omega) (by omega) (by omega)]; exact G2.2.1, by rw [F3.2 7 (by omega) (by omega) (by omega) (by omega)]; exact G2.2.2⟩ K3 D3 O3 (wrd_out (by omega)) V3 (by
        rw [ra.2.1]
        unfold KKV at kk ⊢
        rw [F3.1 _ (by omega), F3.1 _ (by omega)]
        exact kk) (fun i i0 i1 => by omega)
      exact go
  · refine ⟨fun x => absurd rfl x, fun _ => ?_⟩
    rw [if_pos q]
    exact crs_pre F1.frd (by rw [F1.1 142 (by omega)]) (F1.2 6 (by omega) (by omega) (by omega) (by omega)) (F1.2 7 (by omega) (by omega) (by omega) (by omega)) (crs_fail K1 1 (by omega))
theorem w8i {x : Int} (a : 0 ≤ x) (b : x < 26) : w8 x = x := by
  unfold w8
  omega
theorem l_ro_4 {c : Int} (hd : 10 ≤ d) (O : ONJ ρ c) (h155 : ∀ x, 0 ≤ x → x < 26 → σ 155 x = ρ (31 + x)) : ∀ (k i : Nat) (τ : jH), i + k = 26 → (∀ a, a ≠ 155 → τ a = σ a) → (∀ x, 0 ≤ x → x < 26 → τ 155 x = (rOth c ρ i).2 (31 + x)) →
    Ev (l, (fun _ => 0), 0) d 0 0 m_RuleReader_rankOthers (RW fun _ τ => (∀ a, a ≠ 155 → τ a = σ a) ∧ ∀ x, 0 ≤ x → x < 26 → τ 155 x = (rOth c ρ 26).2 (31 + x)) 4 [some (vR 141), none, some (vI (rOth c ρ i).1), some (vI i)] [] gW τ 0 0
  | 0, i, τ, hk, F, V => by
    have e : i = 26 := by omega
    subst e
    refine jwp_sound t_RuleReader_rankOthers _ (b_RuleReader_rankOthers_4 ?_)
    exact ⟨fun _ => ⟨rfl, F, V⟩, fun q => absurd q (by omega)⟩
  | k + 1, i, τ, hk, F, V => by
    obtain ⟨h1, h2, h3, h4⟩ := rOth_ok O i (by omega)
    have vi := V i (by omega) (by omega)
    have IH := fun υ F2 V2 => l_ro_4 hd O h155 k (i + 1) υ (by omega) F2 V2
    rw [show ((i + 1 : Nat) : Int) = (i : Int) + 1 by omega] at IH
    refine jwp_sound t_RuleReader_rankOthers _ (b_RuleReader_rankOthers_4 ?_)
    simp only [RW, true_and, and_true, and_self, true_or, or_true, Nat.reduceLeDiff, Nat.reduceEqDiff, Nat.reduceAdd, Int.reduceLE, Int.reduceLT, Int.reduceEq, Int.reduceNeg, Int.reduceNe, Nat.reduceSub, reduceIte, implies_true, gt_141, gr_141_0, gt_142, gr_142_10, gt_155]
    rw [vi, w32_of (x := (i : Int) + 1) (by omega) (by omega)]
    refine ⟨fun q => absurd q (by omega), fun _ => ⟨by omega, by omega, fun q => ?_, fun q => ⟨by omega, by omega, ?_⟩⟩⟩
    · have e : rOth c ρ (i + 1) = rOth c ρ i := if_neg q
      rw [e] at IH
      exact IH τ F V
    · have e : rOth c ρ (i + 1) = ((rOth c ρ i).1 + 1, up (rOth c ρ i).2 (31 + i) (rOth c ρ i).1) := if_pos q
      obtain ⟨s1, s2, s3⟩ := onj_s (x := i) (by omega) (by omega) q h1
      rw [e] at IH
      rw [w8i s2 s3, w8i s2 s3, w32_of (x := (rOth c ρ i).1 + 1) (by omega) (by omega)]
      refine IH _ (fun a ha => by rw [ju_row ha, F a ha]) (fun x x0 x1 => ?_)
      show _ = up (rOth c ρ i).2 (31 + i) (rOth c ρ i).1 (31 + x)
      by_cases y : x = i
      · rw [y, ju_self, up_self]
      · rw [ju_ne2 y, up_ne (by omega)]
        exact V x x0 x1
theorem c_rankOthers {c : Int} (O : ONJ ρ c) (h155 : ∀ x, 0 ≤ x → x < 26 → σ 155 x = ρ (31 + x)) : Cw 10 m_RuleReader_rankOthers [vR 141, vI c] σ (fun _ τ => (∀ a, a ≠ 155 → τ a = σ a) ∧ ∀ x, 0 ≤ x → x < 26 → τ 155 x = (rOth c ρ 26).2 (31 + x)) := by
  refine Cw_of o_RuleReader_rankOthers rfl fun l d hd => jwp_sound t_RuleReader_rankOthers _ (b_RuleReader_rankOthers_0 ?_)
  exact l_ro_4 hd O h155 26 0 σ rfl (fun _ _ => rfl) h155
/-- letters' ranks alone are others -/
theorem DRC.rank {τ : jH} {ρ' : Int → Int} (D : DRC σ ρ ho) (O : RRO ρ) (F : ∀ a, a ≠ 155 → a ≠ 142 → a ≠ 140 → τ a = σ a) (h142 : ∀ j, j ≠ 11 → τ 142 j = σ 142 j) (h11 : τ 142 11 = 1) (h : ∀ j, (j < 31 ∨ 57 ≤ j) → ρ' j = ρ j) (h155 : ∀ x, 0 ≤ x → x < 26 → τ 155 x = ρ' (31 + x)) : DRC τ ρ' true := by
  obtain ⟨⟨o1, o2, o3, o4, o5⟩, o6⟩ := O
  obtain ⟨⟨e1, e2, e3, e4⟩, e5, e6, e7, e8⟩ := D
  have rr : ∀ B, 57 ≤ B → RV ρ B → rk ρ' B = rk ρ B := fun B b V => rk_eq (h B (by omega)) (fun j x y => h _ (by omega)) |>.symm ▸ rfl
  unfold DRC KKV
  rw [h142 5 (by omega), h142 7 (by omega), h142 3 (by omega), h11, F 143 (by omega) (by omega) (by omega), F 144 (by omega) (by omega) (by omega), F (145 + 1) (by omega) (by omega) (by omega), F (145 + 2) (by omega) (by omega) (by omega), F 154 (by omega) (by omega) (by omega), F (148 + 1) (by omega) (by omega) (by omega), F (148 + 2) (by omega) (by omega) (by omega), F (151 + 1) (by omega) (by omega) (by omega), F (151 + 2) (by omega) (by omega) (by omega), h 1 (by omega), h 2 (by omega), fcnt_eq (fun j a b => h j (by omega)) 26 (by omega)]
  refine ⟨⟨e1, e2, e3, rfl⟩, fun x a b => ?_, h155, fun s a b => ?_, fun r a b => ?_⟩
  · unfold fo
    rw [h _ (by omega)]
    exact e5 x a b
  · rw [rr _ (by omega) (o4 s a b).1]
    exact e7 s a b
  · obtain ⟨g1, g2, g3⟩ := e8 r a b
    obtain ⟨v1, v2⟩ := o5 r a b
    have v0 := (v2 0 (by omega) (by omega)).1
    rw [show 478 + 106 * r + 21 * 0 = 478 + 106 * r by omega] at v0
    rw [h _ (by omega), rr _ (by omega) v0]
    refine ⟨g1, g2, fun i i0 i1 => ?_⟩
    rw [rr _ (by omega) (v2 (i + 1) (by omega) (by omega)).1]
    exact g3 i i0 i1
end R4
