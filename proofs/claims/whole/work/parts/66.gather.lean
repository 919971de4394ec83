/-! The class: forms gathered -/
def VD : Nat → Int → Prop
  | 0, x => x = 0
  | n + 1, x => VD n (x / 32) ∧ x % 32 ≤ 26
theorem VD_hm {ρ : Int → Int} (h : okρ ρ) : ∀ (n : Nat) (x : Int), VD n (hm ρ n x)
  | 0, _ => rfl
  | n + 1, x => by
    have m := mp_r h (x % 32)
    show VD n ((hm ρ n (x / 32) * 32 + mp ρ (x % 32)) / 32) ∧ (hm ρ n (x / 32) * 32 + mp ρ (x % 32)) % 32 ≤ 26
    rw [show (hm ρ n (x / 32) * 32 + mp ρ (x % 32)) / 32 = hm ρ n (x / 32) by omega]
    exact ⟨VD_hm h n (x / 32), by omega⟩
theorem VD_inj {ρ : Int → Int} (h : okρ ρ) (hi : ∀ a b, 0 ≤ a → a < 26 → 0 ≤ b → b < 26 → ρ a = ρ b → a = b) : ∀ (n : Nat) (x y : Int), VD n x → VD n y → hm ρ n x = hm ρ n y → x = y
  | 0, x, y, hx, hy, _ => by
    have hx' : x = 0 := hx
    have hy' : y = 0 := hy
    omega
  | n + 1, x, y, hx, hy, he => by
    obtain ⟨h1, h2⟩ := hx
    obtain ⟨h3, h4⟩ := hy
    have m1 := mp_r h (x % 32)
    have m2 := mp_r h (y % 32)
    have he2 : hm ρ n (x / 32) * 32 + mp ρ (x % 32) = hm ρ n (y / 32) * 32 + mp ρ (y % 32) := he
    have e1 := VD_inj h hi n _ _ h1 h3 (by omega)
    have e2 := mp_inj h hi (d := x % 32) (d' := y % 32) (by omega) h2 (by omega) h4 (by omega)
    omega
theorem KKV_kk {σ : jH} {o p K : Int} (h : KKV σ o p K) : kk σ o p = K := by
  unfold kk
  rw [h.1, h.2]
  omega
/-- the first n forms: rising keys -/
def FC (σ : jH) (n : Int) : Prop := 0 ≤ n ∧ n ≤ 600 ∧ σ 97 1 = n ∧ (∀ f, 0 ≤ f → f < n → KKV σ 98 f (kk σ 98 f) ∧ 0 ≤ kk σ 98 f ∧ kk σ 98 f < 1267650600228229401496703205376) ∧ ∀ f g, 0 ≤ f → f < g → g < n → kk σ 98 f < kk σ 98 g
def FSC (σ : jH) (n v : Int) : Prop := ∃ f, 0 ≤ f ∧ f < n ∧ kk σ 98 f = v
theorem KKV_of {σ : jH} {o p : Int} (h : 0 ≤ σ (o + 2) p ∧ σ (o + 2) p < 1125899906842624) : KKV σ o p (kk σ o p) := by
  unfold KKV kk
  omega
theorem KKV_b {σ : jH} {o p K : Int} (h : KKV σ o p K) : 0 ≤ σ (o + 2) p ∧ σ (o + 2) p < 1125899906842624 := by
  have := h.2
  omega
section GA
variable {l : Launch} {d : Nat} {b e : Int} {ω : Int → Int} {σ : jH}
def FRG (σ τ : jH) : Prop := (∀ c, c ≠ 97 → c ≠ 99 → c ≠ 100 → τ c = σ c) ∧ ∀ j, j ≠ 1 → τ 97 j = σ 97 j
theorem FRG.rf : FRG σ σ := ⟨fun _ _ _ _ => rfl, fun _ _ => rfl⟩
theorem FRG.tr {τ υ : jH} (h : FRG σ τ) (h' : FRG τ υ) : FRG σ υ := ⟨fun c a b d => (h'.1 c a b d).trans (h.1 c a b d), fun j hj => (h'.2 j hj).trans (h.2 j hj)⟩
def GAS (σ τ : jH) (ω : Int → Int) (e p nb : Int) : Prop := FRG σ τ ∧ ∃ n, n ≤ nb + p ∧ FC τ n ∧ ∀ v, FSC τ n v ↔ CO ω e p v
theorem ga_ins {τ : jH} {n at0 K : Int} (F : FC τ n) (hn : n < 600) (h0 : 0 ≤ at0) (h1 : at0 ≤ n) (hK : 0 ≤ K ∧ K < 1267650600228229401496703205376) (hl : ∀ p, 0 ≤ p → p < at0 → kk τ 98 p < K) (hg : ∀ p, at0 ≤ p → p < n → K < kk τ 98 p) :
    FC (ju (jr (jr τ 99 (ins (τ 99) n at0 (K / 1125899906842624))) 100 (ins (τ 100) n at0 (K % 1125899906842624))) 97 1 (n + 1)) (n + 1) ∧ FRG τ (ju (jr (jr τ 99 (ins (τ 99) n at0 (K / 1125899906842624))) 100 (ins (τ 100) n at0 (K % 1125899906842624))) 97 1 (n + 1)) ∧
    ∀ v, FSC (ju (jr (jr τ 99 (ins (τ 99) n at0 (K / 1125899906842624))) 100 (ins (τ 100) n at0 (K % 1125899906842624))) 97 1 (n + 1)) (n + 1) v ↔ (FSC τ n v ∨ v = K) := by
  obtain ⟨F1, F2, F3, F4, F5⟩ := F
  have e99 : ju (jr (jr τ 99 (ins (τ 99) n at0 (K / 1125899906842624))) 100 (ins (τ 100) n at0 (K % 1125899906842624))) 97 1 (n + 1) 99 = ins (τ 99) n at0 (K / 1125899906842624) := by
    rw [ju_row (by omega), jr_ne (by omega), jr_self]
  have e100 : ju (jr (jr τ 99 (ins (τ 99) n at0 (K / 1125899906842624))) 100 (ins (τ 100) n at0 (K % 1125899906842624))) 97 1 (n + 1) 100 = ins (τ 100) n at0 (K % 1125899906842624) := by
    rw [ju_row (by omega), jr_self]
  have e97 : ju (jr (jr τ 99 (ins (τ 99) n at0 (K / 1125899906842624))) 100 (ins (τ 100) n at0 (K % 1125899906842624))) 97 1 (n + 1) 97 1 = n + 1 := ju_self
  have eo : ∀ c, c ≠ 97 → c ≠ 99 → c ≠ 100 → ju (jr (jr τ 99 (ins (τ 99) n at0 (K / 1125899906842624))) 100 (ins (τ 100) n at0 (K % 1125899906842624))) 97 1 (n + 1) c = τ c := fun c a1 a2 a3 => by rw [ju_row a1, jr_ne a3, jr_ne a2]
  have ej : ∀ j, j ≠ 1 → ju (jr (jr τ 99 (ins (τ 99) n at0 (K / 1125899906842624))) 100 (ins (τ 100) n at0 (K % 1125899906842624))) 97 1 (n + 1) 97 j = τ 97 j := fun j hj => by rw [ju_ne2 hj, jr_ne (by omega), jr_ne (by omega)]
  generalize ju (jr (jr τ 99 (ins (τ 99) n at0 (K / 1125899906842624))) 100 (ins (τ 100) n at0 (K % 1125899906842624))) 97 1 (n + 1) = υ at *
  have new : ∀ f, 0 ≤ f → f ≤ n → kk υ 98 f = (if f < at0 then kk τ 98 f else if f = at0 then K else kk τ 98 (f - 1)) ∧ KKV υ 98 f (kk υ 98 f) := by
    intro f f0 f1
    have h99 : υ (98 + 1) f = ins (τ 99) n at0 (K / 1125899906842624) f := by rw [show (98 : Int) + 1 = 99 by omega, e99]
    have h100 : υ (98 + 2) f = ins (τ 100) n at0 (K % 1125899906842624) f := by rw [show (98 : Int) + 2 = 100 by omega, e100]
    have hval : ∀ g, 0 ≤ g → g < n → 0 ≤ τ 100 g ∧ τ 100 g < 1125899906842624 := fun g g0 g1 => by
      have := KKV_b (F4 g g0 g1).1
      rwa [show (98 : Int) + 2 = 100 by omega] at this
    have hkk : kk υ 98 f = (if f < at0 then kk τ 98 f else if f = at0 then K else kk τ 98 (f - 1)) := by
      unfold kk
      rw [h99, h100]
      unfold ins
      rw [show (98 : Int) + 1 = 99 by omega, show (98 : Int) + 2 = 100 by omega]
      by_cases q1 : f < at0
      · rw [if_pos q1, if_pos q1, if_pos q1]
      · rw [if_neg q1, if_neg q1, if_neg q1]
        by_cases q2 : f = at0
        · rw [if_pos q2, if_pos q2, if_pos q2]
          omega
        · rw [if_neg q2, if_neg q2, if_neg q2, if_pos f1, if_pos f1]
    refine ⟨hkk, KKV_of ?_⟩
    rw [h100]
    unfold ins
    split
    · exact hval f f0 (by omega)
    · split
      · omega
      · exact hval (f - 1) (by omega) (by omega)
  refine ⟨⟨by omega, by omega, e97, fun f f0 f1 => ⟨(new f f0 (by omega)).2, ?_⟩, fun f g f0 f1 f2 => ?_⟩, ⟨eo, ej⟩, fun v => ?_⟩
  · rw [(new f f0 (by omega)).1]
    split
    · exact (F4 f f0 (by omega)).2
    · split
      · exact hK
      · exact (F4 (f - 1) (by omega) (by omega)).2
  · rw [(new f f0 (by omega)).1, (new g (by omega) (by omega)).1]
    split
    · split
      · exact F5 f g f0 f1 (by omega)
      · split
        · exact hl f f0 (by omega)
        · by_cases h : f = g - 1
          · omega
          · exact F5 f (g - 1) f0 (by omega) (by omega)
    · rw [if_neg (by omega : ¬ g < at0), if_neg (by omega : ¬ g = at0)]
      split
      · exact hg (g - 1) (by omega) (by omega)
      · exact F5 (f - 1) (g - 1) (by omega) (by omega) (by omega)
  · constructor
    · rintro ⟨f, f0, f1, hf⟩
      rw [(new f f0 (by omega)).1] at hf
      split at hf
      · exact Or.inl ⟨f, f0, by omega, hf⟩
      · split at hf
        · exact Or.inr hf.symm
        · exact Or.inl ⟨f - 1, by omega, by omega, hf⟩
    · rintro (⟨f, f0, f1, hf⟩ | hv)
      · by_cases h : f < at0
        · exact ⟨f, f0, by omega, by rw [(new f f0 (by omega)).1, if_pos h, hf]⟩
        · refine ⟨f + 1, by omega, by omega, ?_⟩
          rw [(new (f + 1) (by omega) (by omega)).1, if_neg (by omega), if_neg (by omega), show f + 1 - 1 = f by omega, hf]
      · refine ⟨at0, h0, by omega, ?_⟩
        rw [(new at0 h0 h1).1, if_neg (by omega), if_pos rfl, hv]
theorem l_gather {nb : Int} (hd : 12 ≤ d) (hW : isWords b) (he : 0 ≤ e) (hφ : okρ (fo ω)) (C : CWD σ b (fo ω) (wW ω e) (wW ω e).1) (hc : (wW ω e).1 ≤ 300) (hnb : nb + (wW ω e).1 ≤ 600) : ∀ (k : Nat) (p : Int) (τ : jH), p + k = (wW ω e).1 → 0 ≤ p → GAS σ τ ω e p nb →
    Ev (l, (fun _ => 0), 0) d 0 0 m_Book_gather (RW fun _ τ => GAS σ τ ω e (wW ω e).1 nb) 2 [some (vR 97), some (vR b), some (vI p), none, none, none, none, none] [] gW τ 0 0
  | 0, p, τ, hk, hp, X => by
    have hb : 100 < b := by unfold isWords at hW; omega
    have eb : τ b 0 = (wW ω e).1 := by rw [X.1.1 b (by omega) (by omega) (by omega)]; exact C.1
    refine jwp_sound t_Book_gather _ (b_Book_gather_2 ?_)
    simp only [RW, true_and, and_true, and_self, true_or, or_true, Nat.reduceLeDiff, Nat.reduceEqDiff, Nat.reduceAdd, Int.reduceLE, Int.reduceLT, Int.reduceEq, Int.reduceNeg, Int.reduceNe, Nat.reduceSub, reduceIte, implies_true, wd_t hW, wd_r1 hW, wd_t1 hW, wd_r2 hW, wd_t2 hW, wd_r3 hW, wd_t3 hW, wd_r4 hW, wd_t4 hW, wd_r5 hW, wd_t5 hW, wd_r6 hW, wd_t6 hW, wd_r7 hW, wd_t7 hW, wd_r8 hW, wd_t8 hW, wd_r10 hW, wd_t10 hW, wd_r11 hW, wd_t11 hW, wd_r12 hW, wd_t12 hW, wd_r13 hW, wd_t13 hW, gt_97, gr_97_2, gt_98]
    rw [eb]
    have ep : p = (wW ω e).1 := by omega
    rw [ep] at X
    exact ⟨fun _ => X, fun q => absurd q (by omega)⟩
  | k + 1, p, τ, hk, hp, X => by
    have hb : 100 < b := by unfold isWords at hW; omega
    have X' := X
    obtain ⟨X1, n, X2, X3, X4⟩ := X'
    have X3' := X3
    obtain ⟨F1, F2, F3, F4, F5⟩ := X3'
    have eb : τ b 0 = (wW ω e).1 := by rw [X1.1 b (by omega) (by omega) (by omega)]; exact C.1
    have kv := C.2.2.1 p hp (by omega)
    have kv1 : τ (b + 1 + 1) p = km (fo ω) ((wW ω e).2.2.2.2.1 p) / 1125899906842624 := by rw [X1.1 _ (by omega) (by omega) (by omega)]; exact kv.1
    have kv2 : τ (b + 1 + 2) p = km (fo ω) ((wW ω e).2.2.2.2.1 p) % 1125899906842624 := by rw [X1.1 _ (by omega) (by omega) (by omega)]; exact kv.2
    have kr := km_r hφ ((wW ω e).2.2.2.2.1 p)
    have kr0 := kr_Words_1 hW
    unfold KR at kr0
    obtain ⟨q1, q2, q3, q4, q5⟩ := kr0
    refine jwp_sound t_Book_gather _ (b_Book_gather_2 ?_)
    simp only [RW, true_and, and_true, and_self, true_or, or_true, Nat.reduceLeDiff, Nat.reduceEqDiff, Nat.reduceAdd, Int.reduceLE, Int.reduceLT, Int.reduceEq, Int.reduceNeg, Int.reduceNe, Nat.reduceSub, reduceIte, implies_true, wd_t hW, wd_r1 hW, wd_t1 hW, wd_r2 hW, wd_t2 hW, wd_r3 hW, wd_t3 hW, wd_r4 hW, wd_t4 hW, wd_r5 hW, wd_t5 hW, wd_r6 hW, wd_t6 hW, wd_r7 hW, wd_t7 hW, wd_r8 hW, wd_t8 hW, wd_r10 hW, wd_t10 hW, wd_r11 hW, wd_t11 hW, wd_r12 hW, wd_t12 hW, wd_r13 hW, wd_t13 hW, gt_97, gr_97_2, gt_98, q2, q3, q4, q5]
    clear q1 q2 q3 q4 q5
    rw [eb, F3, kv1, kv2, w32_of (x := p + 1) (by omega) (by omega)]
    have eK : KEY ω e p = km (fo ω) ((wW ω e).2.2.2.2.1 p) := rfl
    rw [← eK] at kr ⊢
    have cos : ∀ v, CO ω e (p + 1) v ↔ (CO ω e p v ∨ v = KEY ω e p) := fun v => CO_s he hp (by omega)
    generalize KEY ω e p = K at *
    refine ⟨fun q => absurd q (by omega), fun _ => ⟨fun q => absurd q (by omega), fun _ => ⟨by omega, by omega, by omega, by omega, ?_⟩⟩⟩
    refine cN_w (c_KeyRow_find kr_98 (by omega) (by omega) n _ _ τ F1 (by omega) (fun f f0 f1 => KKV_b (F4 f f0 (by omega)).1) (fun f g f0 f1 f2 => F5 f g f0 f1 (by omega))) (by omega) (fun z υ hz => ?_)
    obtain ⟨hz, rfl⟩ := hz
    rw [show K / 1125899906842624 * 1125899906842624 + K % 1125899906842624 = K by omega, show min n 600 = n by omega] at hz
    rcases hz with ⟨z0, z1, z2⟩ | ⟨z0, z1, z2, z3⟩
    · refine ⟨fun _ => ?_, fun q => absurd q (by omega)⟩
      refine l_gather hd hW he hφ C hc hnb k (p + 1) υ (by omega) (by omega) ⟨X1, n, by omega, X3, fun v => ?_⟩
      rw [cos v, X4 v]
      constructor
      · exact fun h => Or.inl h
      · rintro (h | h)
        · exact h
        · exact (X4 v).mp ⟨z, z0, z1, by rw [z2, h]⟩
    · refine ⟨fun q => absurd q (by omega), fun _ => ?_⟩
      rw [F3, w32_of (x := -1 - z) (by omega) (by omega)]
      refine ⟨fun q => absurd q (by omega), fun _ => ?_⟩
      refine cN_v (c_KeyRow_insert kr_98 (by omega) n (-1 - z) _ _ υ (by omega) z1 (by omega)) (by omega) (fun _ => ?_)
      have U := ga_ins (K := K) X3 (by omega) (by omega : (0 : Int) ≤ -1 - z) z1 kr z2 z3
      rw [show (98 : Int) + 1 = 99 by omega, show (98 : Int) + 2 = 100 by omega]
      have e971 : jr (jr υ 99 (ins (υ 99) n (-1 - z) (K / 1125899906842624))) 100 (ins (υ 100) n (-1 - z) (K % 1125899906842624)) 97 1 = n := by rw [jr_ne (by omega), jr_ne (by omega), F3]
      rw [e971, w32_of (x := n + 1) (by omega) (by omega)]
      refine l_gather hd hW he hφ C hc hnb k (p + 1) _ (by omega) (by omega) ⟨X1.tr U.2.1, n + 1, by omega, U.1, fun v => ?_⟩
      rw [U.2.2 v, cos v, X4 v]
theorem c_gather {nb : Int} (hW : isWords b) (he : 0 ≤ e) (hφ : okρ (fo ω)) (C : CWD σ b (fo ω) (wW ω e) (wW ω e).1) (hc : (wW ω e).1 ≤ 300) (hnb : nb + (wW ω e).1 ≤ 600) (X : GAS σ σ ω e 0 nb) :
    Cw 12 m_Book_gather [vR 97, vR b] σ (fun _ τ => GAS σ τ ω e (wW ω e).1 nb) := by
  have h0 := wW_0 ω e
  refine Cw_of o_Book_gather rfl fun l d hd => jwp_sound t_Book_gather _ (b_Book_gather_0 ?_)
  exact l_gather hd hW he hφ C hc hnb (wW ω e).1.toNat 0 σ (by omega) (by omega) X
end GA
