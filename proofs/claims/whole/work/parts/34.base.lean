/-! Calls inside a walk -/
def cN (l : Launch) (d : Nat) (m : jM) (as : List jV) (G : jG) (σ : jH) (K : Int → jH → Prop) : Prop := ∃ (d' : Nat) (Post : Int → jH → Prop), d' < d ∧ CallN l d' m as G σ Post ∧ ∀ x σ', Post x σ' → K x σ'
theorem cN_mk {l : Launch} {d d' : Nat} {m : jM} {as : List jV} {G : jG} {σ : jH} {P K : Int → jH → Prop} (h : CallN l d' m as G σ P) (hd : d' < d) (hk : ∀ x σ', P x σ' → K x σ') : cN l d m as G σ K := ⟨d', P, hd, h, hk⟩
