/-! A step asks no more of what comes behind than it says -/
section MV
variable {C : jC} {d mc ms : Nat} {RT : Int → jG → jH → Prop} {ls : List (Option jV)} {st : List jV} {G : jG} {σ : jH} {cs ss : Nat} {pc : Nat} {k1 k2 : jK}
theorem jbin_mono {f : Int → Int → Int} {a b : List jV → Prop} (hk : ∀ r, a r → b r) (h : jbin st f a) : jbin st f b := by
  unfold jbin at h ⊢
  split at h
  · exact hk _ h
  · exact h.elim
theorem jbinL_mono {f : Int → Int → Int} {a b : List jV → Prop} (hk : ∀ r, a r → b r) (h : jbinL st f a) : jbinL st f b := by
  unfold jbinL at h ⊢
  split at h
  · exact hk _ h
  · exact h.elim
theorem jsh_mono {f : Int → Int → Int} {a b : List jV → Prop} (hk : ∀ r, a r → b r) (h : jsh st f a) : jsh st f b := by
  unfold jsh at h ⊢
  split at h
  · exact hk _ h
  · exact h.elim
theorem jun_mono {f : Int → Int} {a b : List jV → Prop} (hk : ∀ r, a r → b r) (h : jun st f a) : jun st f b := by
  unfold jun at h ⊢
  split at h
  · exact hk _ h
  · exact h.elim
theorem jcond_mono {c : Jvm.ClassFile.Cond} {x y : Int} {a b a' b' : Prop} (h1 : a → a') (h2 : b → b') (h : jcond c x y a b) : jcond c x y a' b' := by
  unfold jcond at h ⊢
  cases c <;> exact ⟨fun q => h1 (h.1 q), fun q => h2 (h.2 q)⟩
theorem jget_mono {i t : Nat} {a b : jV → Prop} (hk : ∀ v, a v → b v) (h : jget ls i t a) : jget ls i t b := by
  unfold jget at h ⊢
  split at h
  · split at h <;> first | exact h.elim | exact hk _ h
  · exact h.elim
theorem jput_mono {i t : Nat} {a b : List (Option jV) → List jV → Prop} (hk : ∀ l r, a l r → b l r) (h : jput ls i t st a) : jput ls i t st b := by
  unfold jput at h ⊢
  split at h <;> first | exact h.elim | exact hk _ _ h
theorem jldk_mono {kind : Nat} {a b : Int → Int → List jV → Prop} (hk : ∀ x y r, a x y r → b x y r) (h : jldk st G kind a) : jldk st G kind b := by
  unfold jldk at h ⊢
  split at h
  · exact ⟨h.1, h.2.1, h.2.2.1, hk _ _ _ h.2.2.2⟩
  · exact h.elim
theorem jstk_mono {kind : Nat} {a b : Int → Int → Int → List jV → Prop} (hk : ∀ x y z r, a x y z r → b x y z r) (h : jstk st G kind a) : jstk st G kind b := by
  unfold jstk at h ⊢
  split at h
  · exact ⟨h.1, h.2.1, h.2.2.1, hk _ _ _ _ h.2.2.2⟩
  · exact h.elim
theorem jrecv_mono {v : Option jV} {a b : Int → Prop} (hk : ∀ o, a o → b o) (h : jrecv v a) : jrecv v b := by
  unfold jrecv at h ⊢
  split at h
  · exact hk _ h
  · exact h.elim
theorem jcallS_mono {m : jM} {n : Nat} {a b : List jV → jH → Prop} (hk : ∀ r s, a r s → b r s) (h : jcallS C d m n st G σ a) : jcallS C d m n st G σ b := by
  unfold jcallS at h ⊢
  split at h
  · obtain ⟨d', P, h1, h2, h3⟩ := h
    exact ⟨d', P, h1, h2, fun x s hp => hk _ _ (h3 x s hp)⟩
  · exact h.elim
theorem jcallV_mono {m : jM} {n ci : Nat} {a b : List jV → jH → Prop} (hk : ∀ r s, a r s → b r s) (h : jcallV C d m n ci st G σ a) : jcallV C d m n ci st G σ b := by
  unfold jcallV at h ⊢
  split at h
  · refine jrecv_mono (fun o h => ?_) h
    obtain ⟨h0, d', P, h1, h2, h3⟩ := h
    exact ⟨h0, d', P, h1, h2, fun x s hp => hk _ _ (h3 x s hp)⟩
  · exact h.elim
theorem jctor_mono {m : jM} {n m1 m2 : Nat} {a b : List jV → jG → jH → Prop} (hk : ∀ r g s, a r g s → b r g s) (h : jctor C d mc ms m n m1 m2 st G σ cs ss a) : jctor C d mc ms m n m1 m2 st G σ cs ss b := by
  unfold jctor at h ⊢
  split at h
  · refine jrecv_mono (fun o h => ?_) h
    obtain ⟨h0, d', P, h1, h2, h3, h4, h5⟩ := h
    exact ⟨h0, d', P, h1, h2, h3, h4, fun g s hp => hk _ _ _ (h5 g s hp)⟩
  · exact h.elim
theorem jtab_mono {x : Int} {a b : Nat → Prop} (hk : ∀ q, a q → b q) : ∀ {os : List Int} {lo : Int}, jtab pc x a lo os → jtab pc x b lo os
  | [], _, _ => trivial
  | o :: os, lo, h => ⟨fun q => hk _ (h.1 q), jtab_mono hk h.2⟩
theorem jstep_mono (hk : ∀ (pc' : Nat) (ls' : List (Option jV)) (st' : List jV) (G' : jG) (σ' : jH) (cs' ss' : Nat), k1 pc' ls' st' G' σ' cs' ss' → k2 pc' ls' st' G' σ' cs' ss') {o : jO} (h : jstep C d mc ms RT k1 o pc ls st G σ cs ss) : jstep C d mc ms RT k2 o pc ls st G σ cs ss := by
  have K : ∀ {pc' : Nat} {ls' : List (Option jV)} {st' : List jV} {G' : jG} {σ' : jH} {cs' ss' : Nat}, k1 pc' ls' st' G' σ' cs' ss' → k2 pc' ls' st' G' σ' cs' ss' := fun h => hk _ _ _ _ _ _ _ h
  obtain ⟨ins, len, a, b, w, z, ps, mm⟩ := o
  cases ins with
  | iconst n =>
    simp only [jstep] at h ⊢
    exact K h
  | bipush n =>
    simp only [jstep] at h ⊢
    exact K h
  | sipush n =>
    simp only [jstep] at h ⊢
    exact K h
  | lconst n =>
    simp only [jstep] at h ⊢
    exact K h
  | ldc2_w i =>
    simp only [jstep] at h ⊢
    exact K h
  | goto n =>
    simp only [jstep] at h ⊢
    exact K h
  | ldc i =>
    simp only [jstep] at h ⊢
    split at h <;> exact K h
  | ldc_w i =>
    simp only [jstep] at h ⊢
    split at h <;> exact K h
  | iload i =>
    simp only [jstep] at h ⊢
    exact jget_mono (fun _ h => K h) h
  | iload_n i =>
    simp only [jstep] at h ⊢
    exact jget_mono (fun _ h => K h) h
  | lload i =>
    simp only [jstep] at h ⊢
    exact jget_mono (fun _ h => K h) h
  | lload_n i =>
    simp only [jstep] at h ⊢
    exact jget_mono (fun _ h => K h) h
  | aload i =>
    simp only [jstep] at h ⊢
    exact jget_mono (fun _ h => K h) h
  | aload_n i =>
    simp only [jstep] at h ⊢
    exact jget_mono (fun _ h => K h) h
  | istore i =>
    simp only [jstep] at h ⊢
    exact jput_mono (fun _ _ h => K h) h
  | istore_n i =>
    simp only [jstep] at h ⊢
    exact jput_mono (fun _ _ h => K h) h
  | lstore i =>
    simp only [jstep] at h ⊢
    exact jput_mono (fun _ _ h => K h) h
  | lstore_n i =>
    simp only [jstep] at h ⊢
    exact jput_mono (fun _ _ h => K h) h
  | astore i =>
    simp only [jstep] at h ⊢
    exact jput_mono (fun _ _ h => K h) h
  | astore_n i =>
    simp only [jstep] at h ⊢
    exact jput_mono (fun _ _ h => K h) h
  | iinc i n =>
    simp only [jstep] at h ⊢
    refine jget_mono (fun v h => ?_) h
    split at h
    · exact K h
    · exact h.elim
  | iadd =>
    simp only [jstep] at h ⊢
    exact jbin_mono (fun _ h => K h) h
  | isub =>
    simp only [jstep] at h ⊢
    exact jbin_mono (fun _ h => K h) h
  | imul =>
    simp only [jstep] at h ⊢
    exact jbin_mono (fun _ h => K h) h
  | iand =>
    simp only [jstep] at h ⊢
    exact jbin_mono (fun _ h => K h) h
  | ior =>
    simp only [jstep] at h ⊢
    exact jbin_mono (fun _ h => K h) h
  | ishl =>
    simp only [jstep] at h ⊢
    exact jbin_mono (fun _ h => K h) h
  | ishr =>
    simp only [jstep] at h ⊢
    exact jbin_mono (fun _ h => K h) h
  | iushr =>
    simp only [jstep] at h ⊢
    exact jbin_mono (fun _ h => K h) h
  | ladd =>
    simp only [jstep] at h ⊢
    exact jbinL_mono (fun _ h => K h) h
  | lsub =>
    simp only [jstep] at h ⊢
    exact jbinL_mono (fun _ h => K h) h
  | land =>
    simp only [jstep] at h ⊢
    exact jbinL_mono (fun _ h => K h) h
  | lor =>
    simp only [jstep] at h ⊢
    exact jbinL_mono (fun _ h => K h) h
  | lxor =>
    simp only [jstep] at h ⊢
    exact jbinL_mono (fun _ h => K h) h
  | lshl =>
    simp only [jstep] at h ⊢
    exact jsh_mono (fun _ h => K h) h
  | lshr =>
    simp only [jstep] at h ⊢
    exact jsh_mono (fun _ h => K h) h
  | idiv =>
    simp only [jstep] at h ⊢
    split at h
    · exact ⟨h.1, K h.2⟩
    · exact h.elim
  | irem =>
    simp only [jstep] at h ⊢
    split at h
    · exact ⟨h.1, K h.2⟩
    · exact h.elim
  | lcmp =>
    simp only [jstep] at h ⊢
    split at h
    · exact K h
    · exact h.elim
  | i2l =>
    simp only [jstep] at h ⊢
    split at h
    · exact K h
    · exact h.elim
  | l2i =>
    simp only [jstep] at h ⊢
    split at h
    · exact K h
    · exact h.elim
  | i2b =>
    simp only [jstep] at h ⊢
    exact jun_mono (fun _ h => K h) h
  | i2s =>
    simp only [jstep] at h ⊢
    exact jun_mono (fun _ h => K h) h
  | dup =>
    simp only [jstep] at h ⊢
    split at h
    · exact K h
    · exact K h
    · exact h.elim
  | dup2 =>
    simp only [jstep] at h ⊢
    split at h
    · exact K h
    · exact h.elim
  | ifCond cc n =>
    simp only [jstep] at h ⊢
    split at h
    · exact jcond_mono (fun h => K h) (fun h => K h) h
    · exact h.elim
  | if_icmp cc n =>
    simp only [jstep] at h ⊢
    split at h
    · exact jcond_mono (fun h => K h) (fun h => K h) h
    · exact h.elim
  | tableswitch df lo hi os =>
    simp only [jstep] at h ⊢
    split at h
    · exact ⟨fun q => K (h.1 q), jtab_mono (fun _ h => K h) h.2⟩
    · exact h.elim
  | getfield i =>
    simp only [jstep] at h ⊢
    split at h
    · exact ⟨h.1, K h.2⟩
    · exact h.elim
  | putfield i =>
    simp only [jstep] at h ⊢
    split at h
    · exact ⟨h.1, K h.2⟩
    · exact ⟨h.1, h.2.1, K h.2.2⟩
    · exact ⟨h.1, K h.2⟩
    · exact ⟨h.1, K h.2⟩
    · exact ⟨h.1, K h.2⟩
    · exact h.elim
  | arraylength =>
    simp only [jstep] at h ⊢
    split at h
    · exact ⟨h.1, K h.2⟩
    · exact K h
    · exact h.elim
  | iaload =>
    simp only [jstep] at h ⊢
    split at h
    · exact jldk_mono (fun _ _ _ h => K h) h
    · split at h
      · exact ⟨h.1, h.2.1, K h.2.2⟩
      · exact h.elim
  | baload =>
    simp only [jstep] at h ⊢
    split at h <;> exact jldk_mono (fun _ _ _ h => K h) h
  | laload =>
    simp only [jstep] at h ⊢
    exact jldk_mono (fun _ _ _ h => K h) h
  | aaload =>
    simp only [jstep] at h ⊢
    exact jldk_mono (fun _ _ _ h => K h) h
  | iastore =>
    simp only [jstep] at h ⊢
    exact jstk_mono (fun _ _ _ _ h => K h) h
  | bastore =>
    simp only [jstep] at h ⊢
    split at h
    · exact jstk_mono (fun _ _ _ _ h => K h) h
    · exact jstk_mono (fun _ _ _ _ h => ⟨h.1, K h.2⟩) h
  | lastore =>
    simp only [jstep] at h ⊢
    split at h
    · exact ⟨h.1, h.2.1, h.2.2.1, K h.2.2.2⟩
    · exact h.elim
  | aastore =>
    simp only [jstep] at h ⊢
    split at h
    · exact ⟨h.1, h.2.1, h.2.2.1, h.2.2.2.1, K h.2.2.2.2⟩
    · exact h.elim
  | invokestatic i =>
    simp only [jstep] at h ⊢
    split at h
    · exact jcallS_mono (fun _ _ h => K h) h
    · split at h
      · exact ⟨h.1, K h.2⟩
      · exact h.elim
    · split at h
      · exact ⟨h.1, K h.2⟩
      · exact h.elim
    · split at h
      · obtain ⟨h1, h2, h3, h4, h5, h6, h7, h8, h9⟩ := h
        exact ⟨h1, h2, h3, h4, h5, h6, h7, h8, K h9⟩
      · exact h.elim
    · exact jcallS_mono (fun _ _ h => K h) h
    · exact h.elim
  | invokevirtual i =>
    simp only [jstep] at h ⊢
    split at h
    · exact jcallV_mono (fun _ _ h => K h) h
    · exact jcallV_mono (fun _ _ h => K h) h
    · split at h
      · exact ⟨h.1, h.2.1, K h.2.2⟩
      · exact h.elim
    · split at h
      · exact ⟨h.1, h.2.1, h.2.2.1, K h.2.2.2⟩
      · exact h.elim
    · exact h.elim
  | invokespecial i =>
    simp only [jstep] at h ⊢
    split at h
    · split at h
      · exact ⟨h.1, h.2.1, K h.2.2⟩
      · exact h.elim
    · exact jctor_mono (fun _ _ _ h => K h) h
  | new i =>
    simp only [jstep] at h ⊢
    exact ⟨h.1, h.2.1, K h.2.2⟩
  | newarray t =>
    simp only [jstep] at h ⊢
    split at h
    · exact ⟨h.1, h.2.1, h.2.2.1, h.2.2.2.1, K h.2.2.2.2⟩
    · exact h.elim
  | anewarray i =>
    simp only [jstep] at h ⊢
    split at h
    · exact ⟨h.1, h.2.1, h.2.2.1, h.2.2.2.1, K h.2.2.2.2⟩
    · exact h.elim
  | multianewarray i n =>
    simp only [jstep] at h ⊢
    split at h
    · obtain ⟨h1, h2, h3, h4, h5, h6, h7⟩ := h
      exact ⟨h1, h2, h3, h4, h5, h6, K h7⟩
    · exact h.elim
  | ireturn =>
    simp only [jstep] at h ⊢
    exact h
  | lreturn =>
    simp only [jstep] at h ⊢
    exact h
  | areturn =>
    simp only [jstep] at h ⊢
    exact h
  | return_ =>
    simp only [jstep] at h ⊢
    exact h
  | _ => exact h.elim
end MV
