/-! decode rows -/
theorem dLW_cell_0 : decode cLW_cell 0 = .ok (.iload_n 1, 1) := by decide +kernel
theorem dLW_cell_1 : decode cLW_cell 1 = .ok (.aload_n 0, 1) := by decide +kernel
theorem dLW_cell_2 : decode cLW_cell 2 = .ok (.arraylength, 1) := by decide +kernel
theorem dLW_cell_3 : decode cLW_cell 3 = .ok (.if_icmp .ge 9, 3) := by decide +kernel
theorem dLW_cell_6 : decode cLW_cell 6 = .ok (.aload_n 0, 1) := by decide +kernel
theorem dLW_cell_7 : decode cLW_cell 7 = .ok (.iload_n 1, 1) := by decide +kernel
theorem dLW_cell_8 : decode cLW_cell 8 = .ok (.iaload, 1) := by decide +kernel
theorem dLW_cell_9 : decode cLW_cell 9 = .ok (.goto 4, 3) := by decide +kernel
theorem dLW_cell_12 : decode cLW_cell 12 = .ok (.iconst 0, 1) := by decide +kernel
theorem dLW_cell_13 : decode cLW_cell 13 = .ok (.ireturn, 1) := by decide +kernel
theorem dLW_port_0 : decode cLW_port 0 = .ok (.aload_n 3, 1) := by decide +kernel
theorem dLW_port_1 : decode cLW_port 1 = .ok (.iconst 0, 1) := by decide +kernel
theorem dLW_port_2 : decode cLW_port 2 = .ok (.aload_n 0, 1) := by decide +kernel
theorem dLW_port_3 : decode cLW_port 3 = .ok (.iload_n 1, 1) := by decide +kernel
theorem dLW_port_4 : decode cLW_port 4 = .ok (.iload_n 2, 1) := by decide +kernel
theorem dLW_port_5 : decode cLW_port 5 = .ok (.invokevirtual 7, 3) := by decide +kernel
theorem dLW_port_8 : decode cLW_port 8 = .ok (.ifCond .eq 7, 3) := by decide +kernel
theorem dLW_port_11 : decode cLW_port 11 = .ok (.lconst 1, 1) := by decide +kernel
theorem dLW_port_12 : decode cLW_port 12 = .ok (.goto 4, 3) := by decide +kernel
theorem dLW_port_15 : decode cLW_port 15 = .ok (.lconst 0, 1) := by decide +kernel
theorem dLW_port_16 : decode cLW_port 16 = .ok (.lastore, 1) := by decide +kernel
theorem dLW_port_17 : decode cLW_port 17 = .ok (.goto 7, 3) := by decide +kernel
theorem dLW_port_20 : decode cLW_port 20 = .ok (.astore 4, 2) := by decide +kernel
theorem dLW_port_22 : decode cLW_port 22 = .ok (.iconst 1, 1) := by decide +kernel
theorem dLW_port_23 : decode cLW_port 23 = .ok (.ireturn, 1) := by decide +kernel
theorem dLW_port_24 : decode cLW_port 24 = .ok (.iconst 0, 1) := by decide +kernel
theorem dLW_port_25 : decode cLW_port 25 = .ok (.ireturn, 1) := by decide +kernel
theorem dLW_greeting_0 : decode cLW_greeting 0 = .ok (.aload 4, 2) := by decide +kernel
theorem dLW_greeting_2 : decode cLW_greeting 2 = .ok (.iconst 0, 1) := by decide +kernel
theorem dLW_greeting_3 : decode cLW_greeting 3 = .ok (.aload_n 0, 1) := by decide +kernel
theorem dLW_greeting_4 : decode cLW_greeting 4 = .ok (.iload_n 1, 1) := by decide +kernel
theorem dLW_greeting_5 : decode cLW_greeting 5 = .ok (.iload_n 2, 1) := by decide +kernel
theorem dLW_greeting_6 : decode cLW_greeting 6 = .ok (.iload_n 3, 1) := by decide +kernel
theorem dLW_greeting_7 : decode cLW_greeting 7 = .ok (.invokevirtual 15, 3) := by decide +kernel
theorem dLW_greeting_10 : decode cLW_greeting 10 = .ok (.i2l, 1) := by decide +kernel
theorem dLW_greeting_11 : decode cLW_greeting 11 = .ok (.lastore, 1) := by decide +kernel
theorem dLW_greeting_12 : decode cLW_greeting 12 = .ok (.goto 11, 3) := by decide +kernel
theorem dLW_greeting_15 : decode cLW_greeting 15 = .ok (.astore 5, 2) := by decide +kernel
theorem dLW_greeting_17 : decode cLW_greeting 17 = .ok (.iconst 1, 1) := by decide +kernel
theorem dLW_greeting_18 : decode cLW_greeting 18 = .ok (.ireturn, 1) := by decide +kernel
theorem dLW_greeting_19 : decode cLW_greeting 19 = .ok (.astore 5, 2) := by decide +kernel
theorem dLW_greeting_21 : decode cLW_greeting 21 = .ok (.iconst 2, 1) := by decide +kernel
theorem dLW_greeting_22 : decode cLW_greeting 22 = .ok (.ireturn, 1) := by decide +kernel
theorem dLW_greeting_23 : decode cLW_greeting 23 = .ok (.iconst 0, 1) := by decide +kernel
theorem dLW_greeting_24 : decode cLW_greeting 24 = .ok (.ireturn, 1) := by decide +kernel
theorem dLW_advert_0 : decode cLW_advert 0 = .ok (.aload 6, 2) := by decide +kernel
theorem dLW_advert_2 : decode cLW_advert 2 = .ok (.iconst 0, 1) := by decide +kernel
theorem dLW_advert_3 : decode cLW_advert 3 = .ok (.aload_n 0, 1) := by decide +kernel
theorem dLW_advert_4 : decode cLW_advert 4 = .ok (.iload_n 1, 1) := by decide +kernel
theorem dLW_advert_5 : decode cLW_advert 5 = .ok (.iload_n 2, 1) := by decide +kernel
theorem dLW_advert_6 : decode cLW_advert 6 = .ok (.iload_n 3, 1) := by decide +kernel
theorem dLW_advert_7 : decode cLW_advert 7 = .ok (.iload 4, 2) := by decide +kernel
theorem dLW_advert_9 : decode cLW_advert 9 = .ok (.iload 5, 2) := by decide +kernel
theorem dLW_advert_11 : decode cLW_advert 11 = .ok (.invokevirtual 21, 3) := by decide +kernel
theorem dLW_advert_14 : decode cLW_advert 14 = .ok (.i2l, 1) := by decide +kernel
theorem dLW_advert_15 : decode cLW_advert 15 = .ok (.lastore, 1) := by decide +kernel
theorem dLW_advert_16 : decode cLW_advert 16 = .ok (.goto 11, 3) := by decide +kernel
theorem dLW_advert_19 : decode cLW_advert 19 = .ok (.astore 7, 2) := by decide +kernel
theorem dLW_advert_21 : decode cLW_advert 21 = .ok (.iconst 1, 1) := by decide +kernel
theorem dLW_advert_22 : decode cLW_advert 22 = .ok (.ireturn, 1) := by decide +kernel
theorem dLW_advert_23 : decode cLW_advert 23 = .ok (.astore 7, 2) := by decide +kernel
theorem dLW_advert_25 : decode cLW_advert 25 = .ok (.iconst 2, 1) := by decide +kernel
theorem dLW_advert_26 : decode cLW_advert 26 = .ok (.ireturn, 1) := by decide +kernel
theorem dLW_advert_27 : decode cLW_advert 27 = .ok (.iconst 0, 1) := by decide +kernel
theorem dLW_advert_28 : decode cLW_advert 28 = .ok (.ireturn, 1) := by decide +kernel
theorem dLW_thanks_0 : decode cLW_thanks 0 = .ok (.aload 5, 2) := by decide +kernel
theorem dLW_thanks_2 : decode cLW_thanks 2 = .ok (.iconst 0, 1) := by decide +kernel
theorem dLW_thanks_3 : decode cLW_thanks 3 = .ok (.aload_n 0, 1) := by decide +kernel
theorem dLW_thanks_4 : decode cLW_thanks 4 = .ok (.iload_n 1, 1) := by decide +kernel
theorem dLW_thanks_5 : decode cLW_thanks 5 = .ok (.iload_n 2, 1) := by decide +kernel
theorem dLW_thanks_6 : decode cLW_thanks 6 = .ok (.iload_n 3, 1) := by decide +kernel
theorem dLW_thanks_7 : decode cLW_thanks 7 = .ok (.iload 4, 2) := by decide +kernel
theorem dLW_thanks_9 : decode cLW_thanks 9 = .ok (.invokevirtual 25, 3) := by decide +kernel
theorem dLW_thanks_12 : decode cLW_thanks 12 = .ok (.ifCond .eq 7, 3) := by decide +kernel
theorem dLW_thanks_15 : decode cLW_thanks 15 = .ok (.lconst 1, 1) := by decide +kernel
theorem dLW_thanks_16 : decode cLW_thanks 16 = .ok (.goto 4, 3) := by decide +kernel
theorem dLW_thanks_19 : decode cLW_thanks 19 = .ok (.lconst 0, 1) := by decide +kernel
theorem dLW_thanks_20 : decode cLW_thanks 20 = .ok (.lastore, 1) := by decide +kernel
theorem dLW_thanks_21 : decode cLW_thanks 21 = .ok (.goto 11, 3) := by decide +kernel
theorem dLW_thanks_24 : decode cLW_thanks 24 = .ok (.astore 6, 2) := by decide +kernel
theorem dLW_thanks_26 : decode cLW_thanks 26 = .ok (.iconst 1, 1) := by decide +kernel
theorem dLW_thanks_27 : decode cLW_thanks 27 = .ok (.ireturn, 1) := by decide +kernel
theorem dLW_thanks_28 : decode cLW_thanks 28 = .ok (.astore 6, 2) := by decide +kernel
theorem dLW_thanks_30 : decode cLW_thanks 30 = .ok (.iconst 2, 1) := by decide +kernel
theorem dLW_thanks_31 : decode cLW_thanks 31 = .ok (.ireturn, 1) := by decide +kernel
theorem dLW_thanks_32 : decode cLW_thanks 32 = .ok (.iconst 0, 1) := by decide +kernel
theorem dLW_thanks_33 : decode cLW_thanks 33 = .ok (.ireturn, 1) := by decide +kernel
theorem dLW_forget_0 : decode cLW_forget 0 = .ok (.aload_n 2, 1) := by decide +kernel
theorem dLW_forget_1 : decode cLW_forget 1 = .ok (.iconst 0, 1) := by decide +kernel
theorem dLW_forget_2 : decode cLW_forget 2 = .ok (.aload_n 0, 1) := by decide +kernel
theorem dLW_forget_3 : decode cLW_forget 3 = .ok (.iload_n 1, 1) := by decide +kernel
theorem dLW_forget_4 : decode cLW_forget 4 = .ok (.invokevirtual 29, 3) := by decide +kernel
theorem dLW_forget_7 : decode cLW_forget 7 = .ok (.ifCond .eq 7, 3) := by decide +kernel
theorem dLW_forget_10 : decode cLW_forget 10 = .ok (.lconst 1, 1) := by decide +kernel
theorem dLW_forget_11 : decode cLW_forget 11 = .ok (.goto 4, 3) := by decide +kernel
theorem dLW_forget_14 : decode cLW_forget 14 = .ok (.lconst 0, 1) := by decide +kernel
theorem dLW_forget_15 : decode cLW_forget 15 = .ok (.lastore, 1) := by decide +kernel
theorem dLW_forget_16 : decode cLW_forget 16 = .ok (.goto 6, 3) := by decide +kernel
theorem dLW_forget_19 : decode cLW_forget 19 = .ok (.astore_n 3, 1) := by decide +kernel
theorem dLW_forget_20 : decode cLW_forget 20 = .ok (.iconst 1, 1) := by decide +kernel
theorem dLW_forget_21 : decode cLW_forget 21 = .ok (.ireturn, 1) := by decide +kernel
theorem dLW_forget_22 : decode cLW_forget 22 = .ok (.iconst 0, 1) := by decide +kernel
theorem dLW_forget_23 : decode cLW_forget 23 = .ok (.ireturn, 1) := by decide +kernel
theorem dLW_run_0 : decode cLW_run 0 = .ok (.aload_n 2, 1) := by decide +kernel
theorem dLW_run_1 : decode cLW_run 1 = .ok (.iconst 0, 1) := by decide +kernel
theorem dLW_run_2 : decode cLW_run 2 = .ok (.aload_n 0, 1) := by decide +kernel
theorem dLW_run_3 : decode cLW_run 3 = .ok (.iload_n 1, 1) := by decide +kernel
theorem dLW_run_4 : decode cLW_run 4 = .ok (.invokevirtual 33, 3) := by decide +kernel
theorem dLW_run_7 : decode cLW_run 7 = .ok (.i2l, 1) := by decide +kernel
theorem dLW_run_8 : decode cLW_run 8 = .ok (.lastore, 1) := by decide +kernel
theorem dLW_run_9 : decode cLW_run 9 = .ok (.goto 9, 3) := by decide +kernel
theorem dLW_run_12 : decode cLW_run 12 = .ok (.astore_n 3, 1) := by decide +kernel
theorem dLW_run_13 : decode cLW_run 13 = .ok (.iconst 1, 1) := by decide +kernel
theorem dLW_run_14 : decode cLW_run 14 = .ok (.ireturn, 1) := by decide +kernel
theorem dLW_run_15 : decode cLW_run 15 = .ok (.astore_n 3, 1) := by decide +kernel
theorem dLW_run_16 : decode cLW_run 16 = .ok (.iconst 2, 1) := by decide +kernel
theorem dLW_run_17 : decode cLW_run 17 = .ok (.ireturn, 1) := by decide +kernel
theorem dLW_run_18 : decode cLW_run 18 = .ok (.iconst 0, 1) := by decide +kernel
theorem dLW_run_19 : decode cLW_run 19 = .ok (.ireturn, 1) := by decide +kernel
theorem dLW_message_0 : decode cLW_message 0 = .ok (.aload_n 2, 1) := by decide +kernel
theorem dLW_message_1 : decode cLW_message 1 = .ok (.iconst 0, 1) := by decide +kernel
theorem dLW_message_2 : decode cLW_message 2 = .ok (.aload_n 0, 1) := by decide +kernel
theorem dLW_message_3 : decode cLW_message 3 = .ok (.iload_n 1, 1) := by decide +kernel
theorem dLW_message_4 : decode cLW_message 4 = .ok (.invokevirtual 37, 3) := by decide +kernel
theorem dLW_message_7 : decode cLW_message 7 = .ok (.i2l, 1) := by decide +kernel
theorem dLW_message_8 : decode cLW_message 8 = .ok (.lastore, 1) := by decide +kernel
theorem dLW_message_9 : decode cLW_message 9 = .ok (.goto 9, 3) := by decide +kernel
theorem dLW_message_12 : decode cLW_message 12 = .ok (.astore_n 3, 1) := by decide +kernel
theorem dLW_message_13 : decode cLW_message 13 = .ok (.iconst 1, 1) := by decide +kernel
theorem dLW_message_14 : decode cLW_message 14 = .ok (.ireturn, 1) := by decide +kernel
theorem dLW_message_15 : decode cLW_message 15 = .ok (.astore_n 3, 1) := by decide +kernel
theorem dLW_message_16 : decode cLW_message 16 = .ok (.iconst 2, 1) := by decide +kernel
theorem dLW_message_17 : decode cLW_message 17 = .ok (.ireturn, 1) := by decide +kernel
theorem dLW_message_18 : decode cLW_message 18 = .ok (.iconst 0, 1) := by decide +kernel
theorem dLW_message_19 : decode cLW_message 19 = .ok (.ireturn, 1) := by decide +kernel
theorem dLW_state_0 : decode cLW_state 0 = .ok (.aload_n 3, 1) := by decide +kernel
theorem dLW_state_1 : decode cLW_state 1 = .ok (.iconst 0, 1) := by decide +kernel
theorem dLW_state_2 : decode cLW_state 2 = .ok (.aload_n 0, 1) := by decide +kernel
theorem dLW_state_3 : decode cLW_state 3 = .ok (.iload_n 1, 1) := by decide +kernel
theorem dLW_state_4 : decode cLW_state 4 = .ok (.iload_n 2, 1) := by decide +kernel
theorem dLW_state_5 : decode cLW_state 5 = .ok (.invokevirtual 40, 3) := by decide +kernel
theorem dLW_state_8 : decode cLW_state 8 = .ok (.i2l, 1) := by decide +kernel
theorem dLW_state_9 : decode cLW_state 9 = .ok (.lastore, 1) := by decide +kernel
theorem dLW_state_10 : decode cLW_state 10 = .ok (.goto 7, 3) := by decide +kernel
theorem dLW_state_13 : decode cLW_state 13 = .ok (.astore 4, 2) := by decide +kernel
theorem dLW_state_15 : decode cLW_state 15 = .ok (.iconst 1, 1) := by decide +kernel
theorem dLW_state_16 : decode cLW_state 16 = .ok (.ireturn, 1) := by decide +kernel
theorem dLW_state_17 : decode cLW_state 17 = .ok (.iconst 0, 1) := by decide +kernel
theorem dLW_state_18 : decode cLW_state 18 = .ok (.ireturn, 1) := by decide +kernel
theorem dLW_known_0 : decode cLW_known 0 = .ok (.aload_n 2, 1) := by decide +kernel
theorem dLW_known_1 : decode cLW_known 1 = .ok (.iconst 0, 1) := by decide +kernel
theorem dLW_known_2 : decode cLW_known 2 = .ok (.aload_n 0, 1) := by decide +kernel
theorem dLW_known_3 : decode cLW_known 3 = .ok (.iload_n 1, 1) := by decide +kernel
theorem dLW_known_4 : decode cLW_known 4 = .ok (.invokevirtual 44, 3) := by decide +kernel
theorem dLW_known_7 : decode cLW_known 7 = .ok (.i2l, 1) := by decide +kernel
theorem dLW_known_8 : decode cLW_known 8 = .ok (.lastore, 1) := by decide +kernel
theorem dLW_known_9 : decode cLW_known 9 = .ok (.goto 6, 3) := by decide +kernel
theorem dLW_known_12 : decode cLW_known 12 = .ok (.astore_n 3, 1) := by decide +kernel
theorem dLW_known_13 : decode cLW_known 13 = .ok (.iconst 1, 1) := by decide +kernel
theorem dLW_known_14 : decode cLW_known 14 = .ok (.ireturn, 1) := by decide +kernel
theorem dLW_known_15 : decode cLW_known 15 = .ok (.iconst 0, 1) := by decide +kernel
theorem dLW_known_16 : decode cLW_known 16 = .ok (.ireturn, 1) := by decide +kernel
theorem dLW_body_0 : decode cLW_body 0 = .ok (.aload_n 2, 1) := by decide +kernel
theorem dLW_body_1 : decode cLW_body 1 = .ok (.iconst 0, 1) := by decide +kernel
theorem dLW_body_2 : decode cLW_body 2 = .ok (.aload_n 0, 1) := by decide +kernel
theorem dLW_body_3 : decode cLW_body 3 = .ok (.iload_n 1, 1) := by decide +kernel
theorem dLW_body_4 : decode cLW_body 4 = .ok (.invokevirtual 47, 3) := by decide +kernel
theorem dLW_body_7 : decode cLW_body 7 = .ok (.i2l, 1) := by decide +kernel
theorem dLW_body_8 : decode cLW_body 8 = .ok (.lastore, 1) := by decide +kernel
theorem dLW_body_9 : decode cLW_body 9 = .ok (.goto 6, 3) := by decide +kernel
theorem dLW_body_12 : decode cLW_body 12 = .ok (.astore_n 3, 1) := by decide +kernel
theorem dLW_body_13 : decode cLW_body 13 = .ok (.iconst 1, 1) := by decide +kernel
theorem dLW_body_14 : decode cLW_body 14 = .ok (.ireturn, 1) := by decide +kernel
theorem dLW_body_15 : decode cLW_body 15 = .ok (.iconst 0, 1) := by decide +kernel
theorem dLW_body_16 : decode cLW_body 16 = .ok (.ireturn, 1) := by decide +kernel
theorem dLW_due_0 : decode cLW_due 0 = .ok (.aload_n 3, 1) := by decide +kernel
theorem dLW_due_1 : decode cLW_due 1 = .ok (.iconst 0, 1) := by decide +kernel
theorem dLW_due_2 : decode cLW_due 2 = .ok (.aload_n 0, 1) := by decide +kernel
theorem dLW_due_3 : decode cLW_due 3 = .ok (.iload_n 1, 1) := by decide +kernel
theorem dLW_due_4 : decode cLW_due 4 = .ok (.iload_n 2, 1) := by decide +kernel
theorem dLW_due_5 : decode cLW_due 5 = .ok (.invokevirtual 50, 3) := by decide +kernel
theorem dLW_due_8 : decode cLW_due 8 = .ok (.i2l, 1) := by decide +kernel
theorem dLW_due_9 : decode cLW_due 9 = .ok (.lastore, 1) := by decide +kernel
theorem dLW_due_10 : decode cLW_due 10 = .ok (.goto 7, 3) := by decide +kernel
theorem dLW_due_13 : decode cLW_due 13 = .ok (.astore 4, 2) := by decide +kernel
theorem dLW_due_15 : decode cLW_due 15 = .ok (.iconst 1, 1) := by decide +kernel
theorem dLW_due_16 : decode cLW_due 16 = .ok (.ireturn, 1) := by decide +kernel
theorem dLW_due_17 : decode cLW_due 17 = .ok (.iconst 0, 1) := by decide +kernel
theorem dLW_due_18 : decode cLW_due 18 = .ok (.ireturn, 1) := by decide +kernel
/-! The law's own helpers: the class's world beside the array out -/
def aS (a : Nat → Nat) (n : Nat) : Nat → Prop := fun q => ∃ k, k < n ∧ q = a k
theorem adr {w : va_W} {n : Nat} {a : Nat → Nat} (h : w.map Prod.fst = (List.range n).map a) {i : Nat} {p : Nat × va_E} (hp : w[i]? = some p) : i < n ∧ p.1 = a i := by
  have h1 : (w.map Prod.fst)[i]? = some p.1 := by rw [List.getElem?_map, hp]; rfl
  rw [h, List.getElem?_map] at h1
  cases hr : (List.range n)[i]? with
  | none => rw [hr] at h1; cases h1
  | some j =>
    rw [hr] at h1
    obtain ⟨hi, hj⟩ := List.getElem?_eq_some_iff.mp hr
    rw [List.length_range] at hi
    rw [List.getElem_range] at hj
    subst hj
    exact ⟨hi, (Option.some.inj h1).symm⟩
theorem adr_in {w : va_W} {n : Nat} {a : Nat → Nat} (h : w.map Prod.fst = (List.range n).map a) {i : Nat} (hi : i < n) : ∃ e, w[i]? = some (a i, e) := by
  have hl : w.length = n := by have := congrArg List.length h; simpa using this
  have h1 : w[i]? = some w[i] := List.getElem?_eq_getElem (by omega)
  have h2 := adr h h1
  exact ⟨(w[i]).2, by rw [h1]; exact congrArg some (Prod.ext h2.2 rfl)⟩
theorem wC_ad (cI cL : ClassId) (a : Nat → Nat) (u : CS) : (wC cI cL a u).map Prod.fst = (List.range 19).map a := by
  obtain ⟨⟨dI, dO, dG, dN, dT⟩, ⟨aN, aB⟩, ⟨nS, nP, nR, nG, nO, nU, nT⟩, ⟨tP, tR, tO, tN, tF, tZ⟩, ⟨mP, mN⟩⟩ := u
  rfl
theorem wR_ad (cI cZ : ClassId) (a : Nat → Nat) (u : RS) : (wR cI cZ a u).map Prod.fst = (List.range 11).map a := by
  obtain ⟨⟨rI, rC, rN⟩, ⟨rO, rG⟩, ⟨rW, rH, rF, rT⟩, ⟨rM, rB, rX⟩, ⟨rQ, rA⟩, ⟨rE, rD⟩⟩ := u
  rfl
abbrev LZ : Type := CS × (Nat → Int64)
def wL (cI cL : ClassId) (a : Nat → Nat) (v : LZ) : va_W := wC cI cL a v.1 ++ [(a 19, .inl (cL, 1, .inr (.inl v.2)))]
theorem wL_ad (cI cL : ClassId) (a : Nat → Nat) (u : LZ) : (wL cI cL a u).map Prod.fst = (List.range 20).map a := by
  obtain ⟨⟨⟨dI, dO, dG, dN, dT⟩, ⟨aN, aB⟩, ⟨nS, nP, nR, nG, nO, nU, nT⟩, ⟨tP, tR, tO, tN, tF, tZ⟩, ⟨mP, mN⟩⟩, f⟩ := u
  rfl
/-- the addresses are apart -/
def aI (a : Nat → Nat) (n : Nat) : Prop := ∀ i j, i < n → j < n → a i = a j → i = j
theorem aI.D {w : va_W} {n : Nat} {a : Nat → Nat} {A : Nat → Prop} (h : w.map Prod.fst = (List.range n).map a) (hi : aI a n) (hA : ∀ k, k < n → A (a k)) : va_D A w := by
  refine ⟨fun i j p q hp hq e => ?_, fun k q hk => ?_⟩
  · have h1 := adr h hp
    have h2 := adr h hq
    exact hi i j h1.1 h2.1 (h1.2.symm.trans (e.trans h2.2))
  · have h1 := adr h hk
    rw [h1.2]; exact hA k h1.1
theorem aI.le {a : Nat → Nat} {n k : Nat} (h : aI a n) (hk : k ≤ n) : aI a k := fun i j hi hj e => h i j (by omega) (by omega) e
theorem aI.of {w X : va_W} {n : Nat} {a : Nat → Nat} {A : Nat → Prop} (h : w.map Prod.fst = (List.range n).map a) (hD : va_D A (w ++ X)) : aI a n ∧ ∀ k, k < n → A (a k) := by
  have hl : w.length = n := by have := congrArg List.length h; simpa using this
  have at' : ∀ i, i < n → ∃ e, (w ++ X)[i]? = some (a i, e) := fun i hi => by
    obtain ⟨e, he⟩ := adr_in h hi
    exact ⟨e, by rw [List.getElem?_append_left (by omega)]; exact he⟩
  refine ⟨fun i j hi hj e => ?_, fun k hk => ?_⟩
  · obtain ⟨e1, h1⟩ := at' i hi
    obtain ⟨e2, h2⟩ := at' j hj
    exact hD.1 i j _ _ h1 h2 e
  · obtain ⟨e1, h1⟩ := at' k hk
    exact hD.2 k _ h1
theorem dS {w : va_W} {n : Nat} {a : Nat → Nat} (h : w.map Prod.fst = (List.range n).map a) (hi : aI a n) : va_D (aS a n) w := aI.D h hi (fun k hk => ⟨k, hk, rfl⟩)
theorem va_P_left {D : va_G} {w X : va_W} {H : Heap} (h : va_P D vwCl (w ++ X) H) : va_P D vwCl w H := fun k q hk => h k q (by
  have := (List.getElem?_eq_some_iff.mp hk).1
  rw [List.getElem?_append_left this]; exact hk)
theorem va_P_right {D : va_G} {w X : va_W} {H : Heap} (h : va_P D vwCl (w ++ X) H) : va_P D vwCl X H := fun k q hk => h (w.length + k) q (by
  rw [List.getElem?_append_right (by omega), show w.length + k - w.length = k by omega]; exact hk)
/-- the cells beside those that a call may change are kept -/
theorem va_rest {D : va_G} {w X Y w' : va_W} {H H1 : Heap} {A0 : Nat → Prop} {a : Nat → Nat} {n : Nat} (h : w.map Prod.fst = (List.range n).map a) (hP : va_P D vwCl (Y ++ (w ++ X)) H) (hD : va_D A0 (Y ++ (w ++ X))) (hk : ∀ q : Nat, q < H.size → ¬ aS a n q → H1[q]? = H[q]?) (hP1 : va_P D vwCl w' H1) : va_P D vwCl (Y ++ (w' ++ X)) H1 := by
  have hl : w.length = n := by have := congrArg List.length h; simpa using this
  have kept : ∀ (i : Nat) (q : Nat × va_E), (Y ++ (w ++ X))[i]? = some q → (i < Y.length ∨ Y.length + w.length ≤ i) → H1[q.1]? = H[q.1]? := by
    intro i q hi ho
    refine hk q.1 ((hP i q hi).lt) ?_
    rintro ⟨k, hkn, hq⟩
    obtain ⟨e, he⟩ := adr_in h hkn
    have h2 : (Y ++ (w ++ X))[Y.length + k]? = some (a k, e) := by
      rw [List.getElem?_append_right (by omega), show Y.length + k - Y.length = k by omega, List.getElem?_append_left (by omega)]
      exact he
    have := hD.1 _ _ _ _ hi h2 hq
    omega
  have hY : va_P D vwCl Y H1 := (va_P_left hP).kept (fun k q hq => kept k q (by rw [List.getElem?_append_left ((List.getElem?_eq_some_iff.mp hq).1)]; exact hq) (Or.inl (List.getElem?_eq_some_iff.mp hq).1))
  have hX : va_P D vwCl X H1 := (va_P_right (va_P_right hP)).kept (fun k q hq => kept (Y.length + (w.length + k)) q (by
    rw [List.getElem?_append_right (by omega), show Y.length + (w.length + k) - Y.length = w.length + k by omega, List.getElem?_append_right (by omega), show w.length + k - w.length = k by omega]; exact hq) (Or.inr (by omega)))
  exact hY.app (hP1.app hX)
theorem keep_S {A : Nat → Prop} {H0 H H1 : Heap} (hk : ∀ (q : Addr) (cell : Cell), H[q]? = some cell → H1[q]? = some cell) (hS : va_S A H0 H []) : va_S A H0 H1 [] := by
  have hz : H.size ≤ H1.size := by
    refine Nat.not_lt.mp fun hlt => ?_
    have h1 : H[H1.size]? = some H[H1.size] := Array.getElem?_eq_getElem hlt
    have h2 := hk _ _ h1
    have h3 := (Array.getElem?_eq_some_iff.mp h2).1
    omega
  refine ⟨Nat.le_trans hS.1 hz, fun q h1 h2 => ?_, fun _ h => by cases h⟩
  have h3 := hS.2.1 q h1 h2
  have h5 : q < H.size := Nat.lt_of_lt_of_le h1 hS.1
  have h4 : H[q]? = some H[q] := Array.getElem?_eq_getElem h5
  rw [hk _ _ h4, ← h4]; exact h3
theorem keep_P {D : va_G} {ws : va_W} {H H1 : Heap} (hk : ∀ (q : Addr) (cell : Cell), H[q]? = some cell → H1[q]? = some cell) (hP : va_P D vwCl ws H) : va_P D vwCl ws H1 := hP.kept (fun k q hq => by
  have h1 := (hP k q hq).lt
  have h4 : H[q.1]? = some H[q.1] := Array.getElem?_eq_getElem h1
  rw [hk _ _ h4, h4])
section WC
variable {p : Program} {l : Launch} {e : Env} {R : Room} {s : State} {m : MethodId} {args : Array Value} {below : List Frame} {meth : Method} {c : Code} {H : Heap} {locs : List Loc} {cells slots : Nat} {Q : State → Prop}
variable {cc bytes : ByteArray} {pc maxL nL n n0 index : Nat} {ls : Array Slot} {rest st0 As : List Value} {D : va_G} {tys : List (ClassId × FieldType)} {A0 : Nat → Prop} {H0 : Heap} {b : Addr} {y : MethodName} {ret : Option FieldType} {wsc Ts : List Cond} {rm : Room} {own C cls : String} {a : Nat → Nat} {X Y : va_W} {hh : List (Nat × Nat × Nat × Nat)}
/-- a call of a method on its own cells, among others -/
theorem w_callVi {S : Type} {w : S → va_W} {v v' : S} {r : Int32} (S0 : CallFix p m c cc nL s args Ts own) (hM : Met l y wsc rm (va_Pc (.ref b :: As) (gG D tys w v)) (va_Qi (fun r1 u => r1 = r ∧ u = v') (gG D tys w) (aS a n0)) 0 0 (aS a n0)) (cw : CallW R s args own C index y bytes maxL ret wsc rm 0 0 n) (hK : va_K D vwCl tys s) (hw : (w v).map Prod.fst = (List.range n0).map a) (hP : va_P D vwCl (Y ++ (w v ++ X)) H) (hD : va_D A0 (Y ++ (w v ++ X)))
    (hrc : ∃ cell : Cell, H[b]? = some cell ∧ cell.vm.isStatics = false ∧ s.vm.findClass C = some cell.cls) (hn : As.length = n) (hsz : ls.size = nL) (hst : st0 = As.reverse ++ .ref b :: rest) (hW : (rest.map fun v => v.category).sum ≤ 8) (hdg : decode cc pc = .ok (.invokevirtual index, 3)) (hf : cells ≤ R.cells ∧ slots ≤ R.slots) (hAA : ∀ q, aS a n0 q → A0 q) (hS : va_S A0 H0 H locs)
    (kk : ∀ (H1 : Heap) (locs1 : List Loc), va_P D vwCl (Y ++ (w v' ++ X)) H1 → va_S A0 H0 H1 locs1 → W p l e R s m args below meth c H1 locs1 cells slots Q (F0 m (pc + 3) ls (.int r :: rest))) : W p l e R s m args below meth c H locs cells slots Q (F0 m pc ls st0) := by
  refine va_calli (va_runV (As := As) (rest := rest) S0 hM cw ⟨fun a U g mk q => ⟨q.1, q.2.1, va_K.moved (u := U) (U := U.calling g mk a) (Vm.Alike.refl U.vm) q.2.2⟩, hrc, fun U hU hW => ⟨rfl, by rw [hU]; exact va_P_left (va_P_right hP), va_K.moved hW.alike hK⟩⟩ rfl hn hsz hst (lv_room hW) hdg hf) hS (fun q _ h => hAA q h) hAA (fun r1 u t H1 locs1 ht hvm hw1 hB hz1 hk1 hS1 => ?_)
  obtain ⟨rfl, rfl⟩ := hw1
  exact kk H1 locs1 (va_rest hw hP hD hk1 (by rw [← ht]; exact hB.1)) hS1
theorem w_callVl {S : Type} {w : S → va_W} {v v' : S} {r : Int64} (S0 : CallFix p m c cc nL s args Ts own) (hM : Met l y wsc rm (va_Pc (.ref b :: As) (gG D tys w v)) (va_Ql (fun r1 u => r1 = r ∧ u = v') (gG D tys w) (aS a n0)) 0 0 (aS a n0)) (cw : CallW R s args own C index y bytes maxL ret wsc rm 0 0 n) (hK : va_K D vwCl tys s) (hw : (w v).map Prod.fst = (List.range n0).map a) (hP : va_P D vwCl (Y ++ (w v ++ X)) H) (hD : va_D A0 (Y ++ (w v ++ X)))
    (hrc : ∃ cell : Cell, H[b]? = some cell ∧ cell.vm.isStatics = false ∧ s.vm.findClass C = some cell.cls) (hn : As.length = n) (hsz : ls.size = nL) (hst : st0 = As.reverse ++ .ref b :: rest) (hW : (rest.map fun v => v.category).sum ≤ 8) (hdg : decode cc pc = .ok (.invokevirtual index, 3)) (hf : cells ≤ R.cells ∧ slots ≤ R.slots) (hAA : ∀ q, aS a n0 q → A0 q) (hS : va_S A0 H0 H locs)
    (kk : ∀ (H1 : Heap) (locs1 : List Loc), va_P D vwCl (Y ++ (w v' ++ X)) H1 → va_S A0 H0 H1 locs1 → W p l e R s m args below meth c H1 locs1 cells slots Q (F0 m (pc + 3) ls (.long r :: rest))) : W p l e R s m args below meth c H locs cells slots Q (F0 m pc ls st0) := by
  refine va_calll (va_runV (As := As) (rest := rest) S0 hM cw ⟨fun a U g mk q => ⟨q.1, q.2.1, va_K.moved (u := U) (U := U.calling g mk a) (Vm.Alike.refl U.vm) q.2.2⟩, hrc, fun U hU hW => ⟨rfl, by rw [hU]; exact va_P_left (va_P_right hP), va_K.moved hW.alike hK⟩⟩ rfl hn hsz hst (lv_room hW) hdg hf) hS (fun q _ h => hAA q h) hAA (fun r1 u t H1 locs1 ht hvm hw1 hB hz1 hk1 hS1 => ?_)
  obtain ⟨rfl, rfl⟩ := hw1
  exact kk H1 locs1 (va_rest hw hP hD hk1 (by rw [← ht]; exact hB.1)) hS1
/-- a call of one of the law's helpers -/
theorem w_callSi {S : Type} {w : S → va_W} {v v' : S} {r : Int32} {mc ms : Nat} (S0 : CallFix p m c cc nL s args Ts own) (hTs : GoodIn Ts wsc) (hM : Met l y wsc rm (va_Pc As (tPre D tys w v)) (va_Qi (fun r1 u => r1 = r ∧ u = v') (gG D tys w) (aS a n0)) mc ms (aS a n0)) (hcw : Cond.codeWith y bytes maxL ret hh ∈ wsc) (hlink : (Cond.methodLink own index y).before args s = true) (hstat : (Cond.static y).before args s = true) (hini : (Cond.initialized y.cls).before args s = true)
    (hrc : rm.cells = mc) (hrs : rm.slots = ms) (hR : rm.frames + 1 ≤ R.frames ∧ 8 + (maxL + 11) + rm.locals ≤ R.locals) (hd : y.cls ≠ "java/lang/invoke/MethodHandle" ∧ y.cls ≠ "java/lang/invoke/VarHandle" ∧ (parseMethodDescriptor y.desc).map (fun d => d.parameters.length) = some n)
    (hK : va_K D vwCl tys s) (hT : tF s) (hTk : ∀ (q : Addr) (cell : Cell), s.heap[q]? = some cell → cell.vm.isStatics = true → H[q]? = some cell) (hw : (w v).map Prod.fst = (List.range n0).map a) (hP : va_P D vwCl (Y ++ (w v ++ X)) H) (hD : va_D A0 (Y ++ (w v ++ X)))
    (hn : As.length = n) (hsz : ls.size = nL) (hst : st0 = As.reverse ++ rest) (hW : (rest.map fun v => v.category).sum ≤ 8) (hdg : decode cc pc = .ok (.invokestatic index, 3)) (hf : cells + mc ≤ R.cells ∧ slots + ms ≤ R.slots) (hAA : ∀ q, aS a n0 q → A0 q) (hS : va_S A0 H0 H locs)
    (kk : ∀ (H1 : Heap) (locs1 : List Loc), va_P D vwCl (Y ++ (w v' ++ X)) H1 → va_S A0 H0 H1 locs1 → W p l e R s m args below meth c H1 locs1 (cells + mc) (slots + ms) Q (F0 m (pc + 3) ls (.int r :: rest))) : W p l e R s m args below meth c H locs cells slots Q (F0 m pc ls st0) := by
  refine va_calli (w_runS (As := As) (rest := rest) S0 hTs hM hcw hlink hstat hini hrc hrs hR hd ⟨tPre_blind, fun U hU hW => ⟨rfl, ⟨by rw [hU]; exact va_P_left (va_P_right hP), va_K.moved hW.alike hK⟩, hT.moved hW (fun q cell h1 h2 => by rw [hU]; exact hTk q cell h1 h2)⟩⟩ rfl hn hsz hst (lv_room hW) hdg hf) hS (fun q _ h => hAA q h) hAA (fun r1 u t H1 locs1 ht hvm hw1 hB hz1 hk1 hS1 => ?_)
  obtain ⟨rfl, rfl⟩ := hw1
  exact kk H1 locs1 (va_rest hw hP hD hk1 (by rw [← ht]; exact hB.1)) hS1
end WC
set_option maxHeartbeats 4000000 in
set_option maxRecDepth 100000 in
theorem h_port (l : Launch) (hL : l.stackTraces = false) {D : va_G} {cI cL : ClassId} {a : Nat → Nat} (hIa : aI a 20) (dI : Nat) (dO dG dN dT : Int32) (aN aB : Nat → Int32) (nS nP nR nG : Nat → Int32) (nO nU : Nat → Int64) (nT : Nat → Int32) (tP tR tO tN : Nat → Int32) (tF tZ : Nat) (mP : Nat → Int32) (mN : Int64) (fo : Nat → Int64) (q : Nat) (b : Bool) (hq : q < 8) : Met l yLW_port wsLW_port ({ frames := 4, cells := 1, slots := 6, locals := 88 }) (va_Pc [.ref (a 0), .int (nI q), .int (bi b), .ref (a 19)] (tPre D (tyC cI cL) (wL cI cL a) (((dI, dO, dG, dN, dT), (aN, aB), (nS, nP, nR, nG, nO, nU, nT), (tP, tR, tO, tN, tF, tZ), (mP, mN)), fo))) (va_Qi (fun (r : Int32) (u : LZ) => r = 0 ∧ u = (((dI, (fDB_port dO dG nS nP nO nU q b).2.1, (fDB_port dO dG nS nP nO nU q b).2.2.1, dN, dT), (aN, aB), ((fDB_port dO dG nS nP nO nU q b).2.2.2.1, nP, nR, nG, (fDB_port dO dG nS nP nO nU q b).2.2.2.2.1, (fDB_port dO dG nS nP nO nU q b).2.2.2.2.2, nT), (tP, tR, tO, tN, tF, tZ), (mP, mN)), vp_updL fo 0 (cond ((fDB_port dO dG nS nP nO nU q b).1) 1 0))) (gG D (tyC cI cL) (wL cI cL a)) (aS a 20)) 1 6 (aS a 20) := by
  have hA : ∀ v : LZ, va_D (aS a 20) (wL cI cL a v) := fun v => dS (wL_ad cI cL a v) hIa
  have hA1 : ∀ v : CS, va_D (aS a 19) (wC cI cL a v) := fun v => dS (wC_ad cI cL a v) (hIa.le (by decide))
  refine w_enter (by decide) rfl (Nat.le_of_ble_eq_true rfl) ?_
  intro p e s m below meth c ls F ht hK hP hT hl
  obtain ⟨hx, hb, hr, hml, hown, hts, hlocks⟩ := id F
  have hS : va_S (aS a 20) s.heap s.heap [] := va_S.rf
  have hl : lv_has ls 5 [(0, .ref (a 0)), (1, .int (nI q)), (2, .int (bi b)), (3, .ref (a 19))] := hl
  refine lv_aload_n hx hb dLW_port_0 rfl (lv_at hl 3 rfl) ?_
  refine lv_iconst (v := nI 0) hx hb dLW_port_1 (by decide) ?_
  refine lv_aload_n hx hb dLW_port_2 rfl (lv_at hl 0 rfl) ?_
  refine lv_iload_n hx hb dLW_port_3 rfl (lv_at hl 1 rfl) ?_
  refine lv_iload_n hx hb dLW_port_4 rfl (lv_at hl 2 rfl) ?_
  refine W.widen (k := 1) (n := 6) (by decide) (by decide) ?_
  refine w_callVi (a := a) (n0 := 19) (w := wC cI cL a) (v := ((dI, dO, dG, dN, dT), (aN, aB), (nS, nP, nR, nG, nO, nU, nT), (tP, tR, tO, tN, tF, tZ), (mP, mN))) (v' := ((dI, (fDB_port dO dG nS nP nO nU q b).2.1, (fDB_port dO dG nS nP nO nU q b).2.2.1, dN, dT), (aN, aB), ((fDB_port dO dG nS nP nO nU q b).2.2.2.1, nP, nR, nG, (fDB_port dO dG nS nP nO nU q b).2.2.2.2.1, (fDB_port dO dG nS nP nO nU q b).2.2.2.2.2, nT), (tP, tR, tO, tN, tF, tZ), (mP, mN))) (Y := []) (X := [(a 19, .inl (cL, 1, .inr (.inl fo)))]) (As := [.int (nI q), .int (bi b)]) (rest := [.int (nI 0), .ref (a 19)]) ⟨hx, hb, hml, hown, hts⟩ (c_DB_port l hA1 dI dO dG dN dT aN aB nS nP nR nG nO nU nT tP tR tO tN tF tZ mP mN q b hq) (cwV 2 hts (gw_V k281 k282 k283 k27 k284) rfl rfl rfl (by decide +kernel) ⟨Nat.le_of_ble_eq_true rfl, Nat.le_of_ble_eq_true rfl⟩) hK (wC_ad cI cL a _) hP (hA (((dI, dO, dG, dN, dT), (aN, aB), (nS, nP, nR, nG, nO, nU, nT), (tP, tR, tO, tN, tF, tZ), (mP, mN)), fo)) (va_recv (q0 := 0) hK (va_P_left hP) rfl rfl) rfl hl.1 rfl (Nat.le_of_ble_eq_true rfl) dLW_port_5 ⟨by decide, by decide⟩ (fun q h => by obtain ⟨k, h1, h2⟩ := h; exact ⟨k, by omega, h2⟩) hS (fun H locs hP hS => ?_)
  have hP : va_P D vwCl (wL cI cL a (((dI, (fDB_port dO dG nS nP nO nU q b).2.1, (fDB_port dO dG nS nP nO nU q b).2.2.1, dN, dT), (aN, aB), ((fDB_port dO dG nS nP nO nU q b).2.2.2.1, nP, nR, nG, (fDB_port dO dG nS nP nO nU q b).2.2.2.2.1, (fDB_port dO dG nS nP nO nU q b).2.2.2.2.2, nT), (tP, tR, tO, tN, tF, tZ), (mP, mN)), fo)) H := hP
  refine lv_if_eqb hx hb (tgt := 15) dLW_port_8 (by decide) (fun c1 => ?_) (fun c1 => ?_)
  · refine lv_lconst (v := 0) hx hb dLW_port_15 (by decide) ?_
    refine ir_last hx hb hK hP (hA (((dI, (fDB_port dO dG nS nP nO nU q b).2.1, (fDB_port dO dG nS nP nO nU q b).2.2.1, dN, dT), (aN, aB), ((fDB_port dO dG nS nP nO nU q b).2.2.2.1, nP, nR, nG, (fDB_port dO dG nS nP nO nU q b).2.2.2.2.1, (fDB_port dO dG nS nP nO nU q b).2.2.2.2.2, nT), (tP, tR, tO, tN, tF, tZ), (mP, mN)), fo)) hS 19 1 rfl rfl (k := 0) (by decide) (by decide) dLW_port_16 (fun H locs hP hS => ?_)
    have hP : va_P D vwCl (wL cI cL a (((dI, (fDB_port dO dG nS nP nO nU q b).2.1, (fDB_port dO dG nS nP nO nU q b).2.2.1, dN, dT), (aN, aB), ((fDB_port dO dG nS nP nO nU q b).2.2.2.1, nP, nR, nG, (fDB_port dO dG nS nP nO nU q b).2.2.2.2.1, (fDB_port dO dG nS nP nO nU q b).2.2.2.2.2, nT), (tP, tR, tO, tN, tF, tZ), (mP, mN)), vp_updL fo 0 (0))) H := hP
    refine lv_goto hx hb (tgt := 24) dLW_port_17 (by decide) ?_
    refine lv_iconst (v := 0) hx hb dLW_port_24 (by decide) ?_
    exact g_iret (v := (((dI, (fDB_port dO dG nS nP nO nU q b).2.1, (fDB_port dO dG nS nP nO nU q b).2.2.1, dN, dT), (aN, aB), ((fDB_port dO dG nS nP nO nU q b).2.2.2.1, nP, nR, nG, (fDB_port dO dG nS nP nO nU q b).2.2.2.2.1, (fDB_port dO dG nS nP nO nU q b).2.2.2.2.2, nT), (tP, tR, tO, tN, tF, tZ), (mP, mN)), vp_updL fo 0 0)) hx hb hr hK hP hS ⟨rfl, by rw [cond_no c1]⟩ hlocks dLW_port_25
  · refine lv_lconst (v := 1) hx hb dLW_port_11 (by decide) ?_
    refine lv_goto hx hb (tgt := 16) dLW_port_12 (by decide) ?_
    refine ir_last hx hb hK hP (hA (((dI, (fDB_port dO dG nS nP nO nU q b).2.1, (fDB_port dO dG nS nP nO nU q b).2.2.1, dN, dT), (aN, aB), ((fDB_port dO dG nS nP nO nU q b).2.2.2.1, nP, nR, nG, (fDB_port dO dG nS nP nO nU q b).2.2.2.2.1, (fDB_port dO dG nS nP nO nU q b).2.2.2.2.2, nT), (tP, tR, tO, tN, tF, tZ), (mP, mN)), fo)) hS 19 1 rfl rfl (k := 0) (by decide) (by decide) dLW_port_16 (fun H locs hP hS => ?_)
    have hP : va_P D vwCl (wL cI cL a (((dI, (fDB_port dO dG nS nP nO nU q b).2.1, (fDB_port dO dG nS nP nO nU q b).2.2.1, dN, dT), (aN, aB), ((fDB_port dO dG nS nP nO nU q b).2.2.2.1, nP, nR, nG, (fDB_port dO dG nS nP nO nU q b).2.2.2.2.1, (fDB_port dO dG nS nP nO nU q b).2.2.2.2.2, nT), (tP, tR, tO, tN, tF, tZ), (mP, mN)), vp_updL fo 0 (1))) H := hP
    refine lv_goto hx hb (tgt := 24) dLW_port_17 (by decide) ?_
    refine lv_iconst (v := 0) hx hb dLW_port_24 (by decide) ?_
    exact g_iret (v := (((dI, (fDB_port dO dG nS nP nO nU q b).2.1, (fDB_port dO dG nS nP nO nU q b).2.2.1, dN, dT), (aN, aB), ((fDB_port dO dG nS nP nO nU q b).2.2.2.1, nP, nR, nG, (fDB_port dO dG nS nP nO nU q b).2.2.2.2.1, (fDB_port dO dG nS nP nO nU q b).2.2.2.2.2, nT), (tP, tR, tO, tN, tF, tZ), (mP, mN)), vp_updL fo 0 1)) hx hb hr hK hP hS ⟨rfl, by rw [cond_yes c1]⟩ hlocks dLW_port_25
set_option maxHeartbeats 4000000 in
set_option maxRecDepth 100000 in
theorem h_port_T (l : Launch) (hL : l.stackTraces = false) {D : va_G} {cI cL : ClassId} {a : Nat → Nat} (hIa : aI a 20) (dI : Nat) (dO dG dN dT : Int32) (aN aB : Nat → Int32) (nS nP nR nG : Nat → Int32) (nO nU : Nat → Int64) (nT : Nat → Int32) (tP tR tO tN : Nat → Int32) (tF tZ : Nat) (mP : Nat → Int32) (mN : Int64) (fo : Nat → Int64) (x : Int32) (b : Bool) (hb0 : fDB_isPort x = false) : Met l yLW_port wsLW_port ({ frames := 8, cells := 1, slots := 6, locals := 124 }) (va_Pc [.ref (a 0), .int x, .int (bi b), .ref (a 19)] (tPre D (tyC cI cL) (wL cI cL a) (((dI, dO, dG, dN, dT), (aN, aB), (nS, nP, nR, nG, nO, nU, nT), (tP, tR, tO, tN, tF, tZ), (mP, mN)), fo))) (va_Qi (fun (r : Int32) (u : LZ) => r = 1 ∧ u = (((dI, dO, dG, dN, dT), (aN, aB), (nS, nP, nR, nG, nO, nU, nT), (tP, tR, tO, tN, tF, tZ), (mP, mN)), fo)) (gG D (tyC cI cL) (wL cI cL a)) (aS a 20)) 1 6 (aS a 20) := by
  have hA : ∀ v : LZ, va_D (aS a 20) (wL cI cL a v) := fun v => dS (wL_ad cI cL a v) hIa
  have hA1 : ∀ v : CS, va_D (aS a 19) (wC cI cL a v) := fun v => dS (wC_ad cI cL a v) (hIa.le (by decide))
  refine w_enter (by decide) rfl (Nat.le_of_ble_eq_true rfl) ?_
  intro p e s m below meth c ls F ht hK hP hT hl
  obtain ⟨hx, hb, hr, hml, hown, hts, hlocks⟩ := id F
  have hS : va_S (aS a 20) s.heap s.heap [] := va_S.rf
  have hl : lv_has ls 5 [(0, .ref (a 0)), (1, .int x), (2, .int (bi b)), (3, .ref (a 19))] := hl
  refine lv_aload_n hx hb dLW_port_0 rfl (lv_at hl 3 rfl) ?_
  refine lv_iconst (v := nI 0) hx hb dLW_port_1 (by decide) ?_
  refine lv_aload_n hx hb dLW_port_2 rfl (lv_at hl 0 rfl) ?_
  refine lv_iload_n hx hb dLW_port_3 rfl (lv_at hl 1 rfl) ?_
  refine lv_iload_n hx hb dLW_port_4 rfl (lv_at hl 2 rfl) ?_
  refine w_catch1 (t_runV (As := [.int x, .int (bi b)]) (rest := [.int (nI 0), .ref (a 19)]) ⟨hx, hb, hml, hown, hts⟩ (c_DB_port_T l hL dI dO dG dN dT aN aB nS nP nR nG nO nU nT tP tR tO tN tF tZ mP mN x b hb0) (cwV 2 hts (gw_V k281 k282 k283 k27 k284) rfl rfl rfl (by decide +kernel) ⟨Nat.le_of_ble_eq_true rfl, Nat.le_of_ble_eq_true rfl⟩) ⟨tPre_blind, va_recv (q0 := 0) hK (va_P_left hP) rfl rfl, fun U hU hW => ⟨rfl, ⟨by rw [hU]; exact va_P_left hP, va_K.moved hW.alike hK⟩, hT.moved hW (fun q cell h _ => by rw [hU]; exact h)⟩⟩ rfl rfl hl.1 rfl (lv_room (Nat.le_of_ble_eq_true rfl)) dLW_port_5 ⟨by decide, by decide⟩) ht hown (by decide) (hts _ k280) (fun H1 x0 hkeep => ?_)
  refine lv_astore (lv' := [(4, .ref x0), (0, .ref (a 0)), (1, .int x), (2, .int (bi b)), (3, .ref (a 19))]) hx hb dLW_port_20 hl (by decide) rfl (fun ls hl => ?_)
  refine lv_iconst (v := 1) hx hb dLW_port_22 (by decide) ?_
  exact g_iret (v := (((dI, dO, dG, dN, dT), (aN, aB), (nS, nP, nR, nG, nO, nU, nT), (tP, tR, tO, tN, tF, tZ), (mP, mN)), fo)) hx hb hr hK (keep_P hkeep hP) (keep_S hkeep hS) ⟨rfl, rfl⟩ hlocks dLW_port_23
set_option maxHeartbeats 4000000 in
set_option maxRecDepth 100000 in
theorem h_greeting (l : Launch) (hL : l.stackTraces = false) {D : va_G} {cI cL : ClassId} {a : Nat → Nat} (hIa : aI a 20) (dI : Nat) (dO dG dN dT : Int32) (aN aB : Nat → Int32) (nS nP nR nG : Nat → Int32) (nO nU : Nat → Int64) (nT : Nat → Int32) (tP tR tO tN : Nat → Int32) (tF tZ : Nat) (mP : Nat → Int32) (mN : Int64) (fo : Nat → Int64) (q : Nat) (o : Nat) (b : Bool) (hq : q < 8) (ho : o < 64) (hne : ¬ o = dI) (hI : dI < 64) (hon : fDB_isOn dO q = true) : Met l yLW_greeting wsLW_greeting ({ frames := 3, cells := 1, slots := 6, locals := 72 }) (va_Pc [.ref (a 0), .int (nI q), .int (nI o), .int (bi b), .ref (a 19)] (tPre D (tyC cI cL) (wL cI cL a) (((dI, dO, dG, dN, dT), (aN, aB), (nS, nP, nR, nG, nO, nU, nT), (tP, tR, tO, tN, tF, tZ), (mP, mN)), fo))) (va_Qi (fun (r : Int32) (u : LZ) => r = 0 ∧ u = (((dI, dO, dG, dN, dT), (aN, aB), ((fDB_greeting dT aN nS nP nR nG nO nU q o b).2.1, (fNB_placeFor nS nP nR (nI q) (nI o)).2.2.1, (fNB_placeFor nS nP nR (nI q) (nI o)).2.2.2, (fDB_greeting dT aN nS nP nR nG nO nU q o b).2.2.1, (fDB_greeting dT aN nS nP nR nG nO nU q o b).2.2.2.1, (fDB_greeting dT aN nS nP nR nG nO nU q o b).2.2.2.2, nT), (tP, tR, tO, tN, tF, tZ), (mP, mN)), vp_updL fo 0 (((fDB_greeting dT aN nS nP nR nG nO nU q o b).1).toInt64))) (gG D (tyC cI cL) (wL cI cL a)) (aS a 20)) 1 6 (aS a 20) := by
  have hA : ∀ v : LZ, va_D (aS a 20) (wL cI cL a v) := fun v => dS (wL_ad cI cL a v) hIa
  have hA1 : ∀ v : CS, va_D (aS a 19) (wC cI cL a v) := fun v => dS (wC_ad cI cL a v) (hIa.le (by decide))
  refine w_enter (by decide) rfl (Nat.le_of_ble_eq_true rfl) ?_
  intro p e s m below meth c ls F ht hK hP hT hl
  obtain ⟨hx, hb, hr, hml, hown, hts, hlocks⟩ := id F
  have hS : va_S (aS a 20) s.heap s.heap [] := va_S.rf
  have hl : lv_has ls 6 [(0, .ref (a 0)), (1, .int (nI q)), (2, .int (nI o)), (3, .int (bi b)), (4, .ref (a 19))] := hl
  refine lv_aload hx hb dLW_greeting_0 (lv_at hl 4 rfl) ?_
  refine lv_iconst (v := nI 0) hx hb dLW_greeting_2 (by decide) ?_
  refine lv_aload_n hx hb dLW_greeting_3 rfl (lv_at hl 0 rfl) ?_
  refine lv_iload_n hx hb dLW_greeting_4 rfl (lv_at hl 1 rfl) ?_
  refine lv_iload_n hx hb dLW_greeting_5 rfl (lv_at hl 2 rfl) ?_
  refine lv_iload_n hx hb dLW_greeting_6 rfl (lv_at hl 3 rfl) ?_
  refine W.widen (k := 1) (n := 6) (by decide) (by decide) ?_
  refine w_callVi (a := a) (n0 := 19) (w := wC cI cL a) (v := ((dI, dO, dG, dN, dT), (aN, aB), (nS, nP, nR, nG, nO, nU, nT), (tP, tR, tO, tN, tF, tZ), (mP, mN))) (v' := ((dI, dO, dG, dN, dT), (aN, aB), ((fDB_greeting dT aN nS nP nR nG nO nU q o b).2.1, (fNB_placeFor nS nP nR (nI q) (nI o)).2.2.1, (fNB_placeFor nS nP nR (nI q) (nI o)).2.2.2, (fDB_greeting dT aN nS nP nR nG nO nU q o b).2.2.1, (fDB_greeting dT aN nS nP nR nG nO nU q o b).2.2.2.1, (fDB_greeting dT aN nS nP nR nG nO nU q o b).2.2.2.2, nT), (tP, tR, tO, tN, tF, tZ), (mP, mN))) (Y := []) (X := [(a 19, .inl (cL, 1, .inr (.inl fo)))]) (As := [.int (nI q), .int (nI o), .int (bi b)]) (rest := [.int (nI 0), .ref (a 19)]) ⟨hx, hb, hml, hown, hts⟩ (c_DB_greeting l hA1 dI dO dG dN dT aN aB nS nP nR nG nO nU nT tP tR tO tN tF tZ mP mN q o b hq ho hne hI hon) (cwV 3 hts (gw_V k375 k376 k377 k27 k378) rfl rfl rfl (by decide +kernel) ⟨Nat.le_of_ble_eq_true rfl, Nat.le_of_ble_eq_true rfl⟩) hK (wC_ad cI cL a _) hP (hA (((dI, dO, dG, dN, dT), (aN, aB), (nS, nP, nR, nG, nO, nU, nT), (tP, tR, tO, tN, tF, tZ), (mP, mN)), fo)) (va_recv (q0 := 0) hK (va_P_left hP) rfl rfl) rfl hl.1 rfl (Nat.le_of_ble_eq_true rfl) dLW_greeting_7 ⟨by decide, by decide⟩ (fun q h => by obtain ⟨k, h1, h2⟩ := h; exact ⟨k, by omega, h2⟩) hS (fun H locs hP hS => ?_)
  have hP : va_P D vwCl (wL cI cL a (((dI, dO, dG, dN, dT), (aN, aB), ((fDB_greeting dT aN nS nP nR nG nO nU q o b).2.1, (fNB_placeFor nS nP nR (nI q) (nI o)).2.2.1, (fNB_placeFor nS nP nR (nI q) (nI o)).2.2.2, (fDB_greeting dT aN nS nP nR nG nO nU q o b).2.2.1, (fDB_greeting dT aN nS nP nR nG nO nU q o b).2.2.2.1, (fDB_greeting dT aN nS nP nR nG nO nU q o b).2.2.2.2, nT), (tP, tR, tO, tN, tF, tZ), (mP, mN)), fo)) H := hP
  refine lv_i2l (v := ((fDB_greeting dT aN nS nP nR nG nO nU q o b).1).toInt64) hx hb dLW_greeting_10 rfl ?_
  refine ir_last hx hb hK hP (hA (((dI, dO, dG, dN, dT), (aN, aB), ((fDB_greeting dT aN nS nP nR nG nO nU q o b).2.1, (fNB_placeFor nS nP nR (nI q) (nI o)).2.2.1, (fNB_placeFor nS nP nR (nI q) (nI o)).2.2.2, (fDB_greeting dT aN nS nP nR nG nO nU q o b).2.2.1, (fDB_greeting dT aN nS nP nR nG nO nU q o b).2.2.2.1, (fDB_greeting dT aN nS nP nR nG nO nU q o b).2.2.2.2, nT), (tP, tR, tO, tN, tF, tZ), (mP, mN)), fo)) hS 19 1 rfl rfl (k := 0) (by decide) (by decide) dLW_greeting_11 (fun H locs hP hS => ?_)
  have hP : va_P D vwCl (wL cI cL a (((dI, dO, dG, dN, dT), (aN, aB), ((fDB_greeting dT aN nS nP nR nG nO nU q o b).2.1, (fNB_placeFor nS nP nR (nI q) (nI o)).2.2.1, (fNB_placeFor nS nP nR (nI q) (nI o)).2.2.2, (fDB_greeting dT aN nS nP nR nG nO nU q o b).2.2.1, (fDB_greeting dT aN nS nP nR nG nO nU q o b).2.2.2.1, (fDB_greeting dT aN nS nP nR nG nO nU q o b).2.2.2.2, nT), (tP, tR, tO, tN, tF, tZ), (mP, mN)), vp_updL fo 0 (((fDB_greeting dT aN nS nP nR nG nO nU q o b).1).toInt64))) H := hP
  refine lv_goto hx hb (tgt := 23) dLW_greeting_12 (by decide) ?_
  refine lv_iconst (v := 0) hx hb dLW_greeting_23 (by decide) ?_
  exact g_iret (v := (((dI, dO, dG, dN, dT), (aN, aB), ((fDB_greeting dT aN nS nP nR nG nO nU q o b).2.1, (fNB_placeFor nS nP nR (nI q) (nI o)).2.2.1, (fNB_placeFor nS nP nR (nI q) (nI o)).2.2.2, (fDB_greeting dT aN nS nP nR nG nO nU q o b).2.2.1, (fDB_greeting dT aN nS nP nR nG nO nU q o b).2.2.2.1, (fDB_greeting dT aN nS nP nR nG nO nU q o b).2.2.2.2, nT), (tP, tR, tO, tN, tF, tZ), (mP, mN)), vp_updL fo 0 (((fDB_greeting dT aN nS nP nR nG nO nU q o b).1).toInt64))) hx hb hr hK hP hS ⟨rfl, rfl⟩ hlocks dLW_greeting_24
set_option maxHeartbeats 4000000 in
set_option maxRecDepth 100000 in
theorem h_greeting_T1 (l : Launch) (hL : l.stackTraces = false) {D : va_G} {cI cL : ClassId} {a : Nat → Nat} (hIa : aI a 20) (dI : Nat) (dO dG dN dT : Int32) (aN aB : Nat → Int32) (nS nP nR nG : Nat → Int32) (nO nU : Nat → Int64) (nT : Nat → Int32) (tP tR tO tN : Nat → Int32) (tF tZ : Nat) (mP : Nat → Int32) (mN : Int64) (fo : Nat → Int64) (x : Int32) (y : Int32) (b : Bool) (hb0 : fDB_isPort x = false) : Met l yLW_greeting wsLW_greeting ({ frames := 8, cells := 1, slots := 6, locals := 126 }) (va_Pc [.ref (a 0), .int x, .int y, .int (bi b), .ref (a 19)] (tPre D (tyC cI cL) (wL cI cL a) (((dI, dO, dG, dN, dT), (aN, aB), (nS, nP, nR, nG, nO, nU, nT), (tP, tR, tO, tN, tF, tZ), (mP, mN)), fo))) (va_Qi (fun (r : Int32) (u : LZ) => r = 1 ∧ u = (((dI, dO, dG, dN, dT), (aN, aB), (nS, nP, nR, nG, nO, nU, nT), (tP, tR, tO, tN, tF, tZ), (mP, mN)), fo)) (gG D (tyC cI cL) (wL cI cL a)) (aS a 20)) 1 6 (aS a 20) := by
  have hA : ∀ v : LZ, va_D (aS a 20) (wL cI cL a v) := fun v => dS (wL_ad cI cL a v) hIa
  have hA1 : ∀ v : CS, va_D (aS a 19) (wC cI cL a v) := fun v => dS (wC_ad cI cL a v) (hIa.le (by decide))
  refine w_enter (by decide) rfl (Nat.le_of_ble_eq_true rfl) ?_
  intro p e s m below meth c ls F ht hK hP hT hl
  obtain ⟨hx, hb, hr, hml, hown, hts, hlocks⟩ := id F
  have hS : va_S (aS a 20) s.heap s.heap [] := va_S.rf
  have hl : lv_has ls 6 [(0, .ref (a 0)), (1, .int x), (2, .int y), (3, .int (bi b)), (4, .ref (a 19))] := hl
  refine lv_aload hx hb dLW_greeting_0 (lv_at hl 4 rfl) ?_
  refine lv_iconst (v := nI 0) hx hb dLW_greeting_2 (by decide) ?_
  refine lv_aload_n hx hb dLW_greeting_3 rfl (lv_at hl 0 rfl) ?_
  refine lv_iload_n hx hb dLW_greeting_4 rfl (lv_at hl 1 rfl) ?_
  refine lv_iload_n hx hb dLW_greeting_5 rfl (lv_at hl 2 rfl) ?_
  refine lv_iload_n hx hb dLW_greeting_6 rfl (lv_at hl 3 rfl) ?_
  refine w_catch1 (t_runV (As := [.int x, .int y, .int (bi b)]) (rest := [.int (nI 0), .ref (a 19)]) ⟨hx, hb, hml, hown, hts⟩ (c_DB_greeting_T1 l hL dI dO dG dN dT aN aB nS nP nR nG nO nU nT tP tR tO tN tF tZ mP mN x y b hb0) (cwV 3 hts (gw_V k375 k376 k377 k27 k378) rfl rfl rfl (by decide +kernel) ⟨Nat.le_of_ble_eq_true rfl, Nat.le_of_ble_eq_true rfl⟩) ⟨tPre_blind, va_recv (q0 := 0) hK (va_P_left hP) rfl rfl, fun U hU hW => ⟨rfl, ⟨by rw [hU]; exact va_P_left hP, va_K.moved hW.alike hK⟩, hT.moved hW (fun q cell h _ => by rw [hU]; exact h)⟩⟩ rfl rfl hl.1 rfl (lv_room (Nat.le_of_ble_eq_true rfl)) dLW_greeting_7 ⟨by decide, by decide⟩) ht hown (by decide) (hts _ k280) (fun H1 x0 hkeep => ?_)
  refine lv_astore (lv' := [(5, .ref x0), (0, .ref (a 0)), (1, .int x), (2, .int y), (3, .int (bi b)), (4, .ref (a 19))]) hx hb dLW_greeting_15 hl (by decide) rfl (fun ls hl => ?_)
  refine lv_iconst (v := 1) hx hb dLW_greeting_17 (by decide) ?_
  exact g_iret (v := (((dI, dO, dG, dN, dT), (aN, aB), (nS, nP, nR, nG, nO, nU, nT), (tP, tR, tO, tN, tF, tZ), (mP, mN)), fo)) hx hb hr hK (keep_P hkeep hP) (keep_S hkeep hS) ⟨rfl, rfl⟩ hlocks dLW_greeting_18
set_option maxHeartbeats 4000000 in
set_option maxRecDepth 100000 in
theorem h_greeting_T2 (l : Launch) (hL : l.stackTraces = false) {D : va_G} {cI cL : ClassId} {a : Nat → Nat} (hIa : aI a 20) (dI : Nat) (dO dG dN dT : Int32) (aN aB : Nat → Int32) (nS nP nR nG : Nat → Int32) (nO nU : Nat → Int64) (nT : Nat → Int32) (tP tR tO tN : Nat → Int32) (tF tZ : Nat) (mP : Nat → Int32) (mN : Int64) (fo : Nat → Int64) (q : Nat) (y : Int32) (b : Bool) (hq : q < 8) (hbad : fDB_isRouter y = true → ¬ y = nI dI → False) : Met l yLW_greeting wsLW_greeting ({ frames := 8, cells := 1, slots := 6, locals := 127 }) (va_Pc [.ref (a 0), .int (nI q), .int y, .int (bi b), .ref (a 19)] (tPre D (tyC cI cL) (wL cI cL a) (((dI, dO, dG, dN, dT), (aN, aB), (nS, nP, nR, nG, nO, nU, nT), (tP, tR, tO, tN, tF, tZ), (mP, mN)), fo))) (va_Qi (fun (r : Int32) (u : LZ) => r = 1 ∧ u = (((dI, dO, dG, dN, dT), (aN, aB), (nS, nP, nR, nG, nO, nU, nT), (tP, tR, tO, tN, tF, tZ), (mP, mN)), fo)) (gG D (tyC cI cL) (wL cI cL a)) (aS a 20)) 1 6 (aS a 20) := by
  have hA : ∀ v : LZ, va_D (aS a 20) (wL cI cL a v) := fun v => dS (wL_ad cI cL a v) hIa
  have hA1 : ∀ v : CS, va_D (aS a 19) (wC cI cL a v) := fun v => dS (wC_ad cI cL a v) (hIa.le (by decide))
  refine w_enter (by decide) rfl (Nat.le_of_ble_eq_true rfl) ?_
  intro p e s m below meth c ls F ht hK hP hT hl
  obtain ⟨hx, hb, hr, hml, hown, hts, hlocks⟩ := id F
  have hS : va_S (aS a 20) s.heap s.heap [] := va_S.rf
  have hl : lv_has ls 6 [(0, .ref (a 0)), (1, .int (nI q)), (2, .int y), (3, .int (bi b)), (4, .ref (a 19))] := hl
  refine lv_aload hx hb dLW_greeting_0 (lv_at hl 4 rfl) ?_
  refine lv_iconst (v := nI 0) hx hb dLW_greeting_2 (by decide) ?_
  refine lv_aload_n hx hb dLW_greeting_3 rfl (lv_at hl 0 rfl) ?_
  refine lv_iload_n hx hb dLW_greeting_4 rfl (lv_at hl 1 rfl) ?_
  refine lv_iload_n hx hb dLW_greeting_5 rfl (lv_at hl 2 rfl) ?_
  refine lv_iload_n hx hb dLW_greeting_6 rfl (lv_at hl 3 rfl) ?_
  refine w_catch1 (t_runV (As := [.int (nI q), .int y, .int (bi b)]) (rest := [.int (nI 0), .ref (a 19)]) ⟨hx, hb, hml, hown, hts⟩ (c_DB_greeting_T2 l hL dI dO dG dN dT aN aB nS nP nR nG nO nU nT tP tR tO tN tF tZ mP mN q y b hq hbad) (cwV 3 hts (gw_V k375 k376 k377 k27 k378) rfl rfl rfl (by decide +kernel) ⟨Nat.le_of_ble_eq_true rfl, Nat.le_of_ble_eq_true rfl⟩) ⟨tPre_blind, va_recv (q0 := 0) hK (va_P_left hP) rfl rfl, fun U hU hW => ⟨rfl, ⟨by rw [hU]; exact va_P_left hP, va_K.moved hW.alike hK⟩, hT.moved hW (fun q cell h _ => by rw [hU]; exact h)⟩⟩ rfl rfl hl.1 rfl (lv_room (Nat.le_of_ble_eq_true rfl)) dLW_greeting_7 ⟨by decide, by decide⟩) ht hown (by decide) (hts _ k280) (fun H1 x0 hkeep => ?_)
  refine lv_astore (lv' := [(5, .ref x0), (0, .ref (a 0)), (1, .int (nI q)), (2, .int y), (3, .int (bi b)), (4, .ref (a 19))]) hx hb dLW_greeting_15 hl (by decide) rfl (fun ls hl => ?_)
  refine lv_iconst (v := 1) hx hb dLW_greeting_17 (by decide) ?_
  exact g_iret (v := (((dI, dO, dG, dN, dT), (aN, aB), (nS, nP, nR, nG, nO, nU, nT), (tP, tR, tO, tN, tF, tZ), (mP, mN)), fo)) hx hb hr hK (keep_P hkeep hP) (keep_S hkeep hS) ⟨rfl, rfl⟩ hlocks dLW_greeting_18
set_option maxHeartbeats 4000000 in
set_option maxRecDepth 100000 in
theorem h_greeting_T3 (l : Launch) (hL : l.stackTraces = false) {D : va_G} {cI cL : ClassId} {a : Nat → Nat} (hIa : aI a 20) (dI : Nat) (dO dG dN dT : Int32) (aN aB : Nat → Int32) (nS nP nR nG : Nat → Int32) (nO nU : Nat → Int64) (nT : Nat → Int32) (tP tR tO tN : Nat → Int32) (tF tZ : Nat) (mP : Nat → Int32) (mN : Int64) (fo : Nat → Int64) (q : Nat) (o : Nat) (b : Bool) (hq : q < 8) (ho : o < 64) (hne0 : ¬ o = dI) (hI : dI < 64) (hoff : fDB_isOn dO q = false) : Met l yLW_greeting wsLW_greeting ({ frames := 8, cells := 1, slots := 6, locals := 127 }) (va_Pc [.ref (a 0), .int (nI q), .int (nI o), .int (bi b), .ref (a 19)] (tPre D (tyC cI cL) (wL cI cL a) (((dI, dO, dG, dN, dT), (aN, aB), (nS, nP, nR, nG, nO, nU, nT), (tP, tR, tO, tN, tF, tZ), (mP, mN)), fo))) (va_Qi (fun (r : Int32) (u : LZ) => r = 2 ∧ u = (((dI, dO, dG, dN, dT), (aN, aB), (nS, nP, nR, nG, nO, nU, nT), (tP, tR, tO, tN, tF, tZ), (mP, mN)), fo)) (gG D (tyC cI cL) (wL cI cL a)) (aS a 20)) 1 6 (aS a 20) := by
  have hA : ∀ v : LZ, va_D (aS a 20) (wL cI cL a v) := fun v => dS (wL_ad cI cL a v) hIa
  have hA1 : ∀ v : CS, va_D (aS a 19) (wC cI cL a v) := fun v => dS (wC_ad cI cL a v) (hIa.le (by decide))
  refine w_enter (by decide) rfl (Nat.le_of_ble_eq_true rfl) ?_
  intro p e s m below meth c ls F ht hK hP hT hl
  obtain ⟨hx, hb, hr, hml, hown, hts, hlocks⟩ := id F
  have hS : va_S (aS a 20) s.heap s.heap [] := va_S.rf
  have hl : lv_has ls 6 [(0, .ref (a 0)), (1, .int (nI q)), (2, .int (nI o)), (3, .int (bi b)), (4, .ref (a 19))] := hl
  refine lv_aload hx hb dLW_greeting_0 (lv_at hl 4 rfl) ?_
  refine lv_iconst (v := nI 0) hx hb dLW_greeting_2 (by decide) ?_
  refine lv_aload_n hx hb dLW_greeting_3 rfl (lv_at hl 0 rfl) ?_
  refine lv_iload_n hx hb dLW_greeting_4 rfl (lv_at hl 1 rfl) ?_
  refine lv_iload_n hx hb dLW_greeting_5 rfl (lv_at hl 2 rfl) ?_
  refine lv_iload_n hx hb dLW_greeting_6 rfl (lv_at hl 3 rfl) ?_
  refine w_catch2 (t_runV (As := [.int (nI q), .int (nI o), .int (bi b)]) (rest := [.int (nI 0), .ref (a 19)]) ⟨hx, hb, hml, hown, hts⟩ (c_DB_greeting_T3 l hL dI dO dG dN dT aN aB nS nP nR nG nO nU nT tP tR tO tN tF tZ mP mN q o b hq ho hne0 hI hoff) (cwV 3 hts (gw_V k375 k376 k377 k27 k378) rfl rfl rfl (by decide +kernel) ⟨Nat.le_of_ble_eq_true rfl, Nat.le_of_ble_eq_true rfl⟩) ⟨tPre_blind, va_recv (q0 := 0) hK (va_P_left hP) rfl rfl, fun U hU hW => ⟨rfl, ⟨by rw [hU]; exact va_P_left hP, va_K.moved hW.alike hK⟩, hT.moved hW (fun q cell h _ => by rw [hU]; exact h)⟩⟩ rfl rfl hl.1 rfl (lv_room (Nat.le_of_ble_eq_true rfl)) dLW_greeting_7 ⟨by decide, by decide⟩) ht hown (by decide) (by decide) (hts _ k280) hT.2.2.2.2 (hts _ k374) (fun H1 x0 hkeep => ?_)
  refine lv_astore (lv' := [(5, .ref x0), (0, .ref (a 0)), (1, .int (nI q)), (2, .int (nI o)), (3, .int (bi b)), (4, .ref (a 19))]) hx hb dLW_greeting_19 hl (by decide) rfl (fun ls hl => ?_)
  refine lv_iconst (v := 2) hx hb dLW_greeting_21 (by decide) ?_
  exact g_iret (v := (((dI, dO, dG, dN, dT), (aN, aB), (nS, nP, nR, nG, nO, nU, nT), (tP, tR, tO, tN, tF, tZ), (mP, mN)), fo)) hx hb hr hK (keep_P hkeep hP) (keep_S hkeep hS) ⟨rfl, rfl⟩ hlocks dLW_greeting_22
set_option maxHeartbeats 4000000 in
set_option maxRecDepth 100000 in
theorem h_advert (l : Launch) (hL : l.stackTraces = false) {D : va_G} {cI cL : ClassId} {a : Nat → Nat} (hIa : aI a 20) (dI : Nat) (dO dG dN dT : Int32) (aN aB : Nat → Int32) (nS nP nR nG : Nat → Int32) (nO nU : Nat → Int64) (nT : Nat → Int32) (tP tR tO tN : Nat → Int32) (tF tZ : Nat) (mP : Nat → Int32) (mN : Int64) (fo : Nat → Int64) (q : Nat) (o : Nat) (g : Nat) (x : Int32) (y : Int32) (hq : q < 8) (ho : o < 64) (hne : ¬ o = dI) (hI : dI < 64) (hg : g < 64) (h1 : ¬ x < 1) (h2 : x ≤ 1000000000) (hon : fDB_isOn dO q = true) (hF : tF < 64) (hZ : tZ ≤ 64) : Met l yLW_advert wsLW_advert ({ frames := 4, cells := 1, slots := 6, locals := 96 }) (va_Pc [.ref (a 0), .int (nI q), .int (nI o), .int (nI g), .int x, .int y, .ref (a 19)] (tPre D (tyC cI cL) (wL cI cL a) (((dI, dO, dG, dN, dT), (aN, aB), (nS, nP, nR, nG, nO, nU, nT), (tP, tR, tO, tN, tF, tZ), (mP, mN)), fo))) (va_Qi (fun (r : Int32) (u : LZ) => r = 0 ∧ u = (((dI, dO, dG, (fDB_advert dI dN aN aB nS nP nR nO nU tP tR tO tN tF tZ q o g x y).2.1, dT), ((fDB_advert dI dN aN aB nS nP nR nO nU tP tR tO tN tF tZ q o g x y).2.2.1, (fDB_advert dI dN aN aB nS nP nR nO nU tP tR tO tN tF tZ q o g x y).2.2.2.1), (nS, nP, nR, nG, (fDB_advert dI dN aN aB nS nP nR nO nU tP tR tO tN tF tZ q o g x y).2.2.2.2.1, (fDB_advert dI dN aN aB nS nP nR nO nU tP tR tO tN tF tZ q o g x y).2.2.2.2.2.1, nT), ((fDB_advert dI dN aN aB nS nP nR nO nU tP tR tO tN tF tZ q o g x y).2.2.2.2.2.2.1, (fDB_advert dI dN aN aB nS nP nR nO nU tP tR tO tN tF tZ q o g x y).2.2.2.2.2.2.2.1, (fDB_advert dI dN aN aB nS nP nR nO nU tP tR tO tN tF tZ q o g x y).2.2.2.2.2.2.2.2.1, (fDB_advert dI dN aN aB nS nP nR nO nU tP tR tO tN tF tZ q o g x y).2.2.2.2.2.2.2.2.2.1, tF, (fDB_advert dI dN aN aB nS nP nR nO nU tP tR tO tN tF tZ q o g x y).2.2.2.2.2.2.2.2.2.2), (mP, mN)), vp_updL fo 0 (((fDB_advert dI dN aN aB nS nP nR nO nU tP tR tO tN tF tZ q o g x y).1).toInt64))) (gG D (tyC cI cL) (wL cI cL a)) (aS a 20)) 1 6 (aS a 20) := by
  have hA : ∀ v : LZ, va_D (aS a 20) (wL cI cL a v) := fun v => dS (wL_ad cI cL a v) hIa
  have hA1 : ∀ v : CS, va_D (aS a 19) (wC cI cL a v) := fun v => dS (wC_ad cI cL a v) (hIa.le (by decide))
  refine w_enter (by decide) rfl (Nat.le_of_ble_eq_true rfl) ?_
  intro p e s m below meth c ls F ht hK hP hT hl
  obtain ⟨hx, hb, hr, hml, hown, hts, hlocks⟩ := id F
  have hS : va_S (aS a 20) s.heap s.heap [] := va_S.rf
  have hl : lv_has ls 8 [(0, .ref (a 0)), (1, .int (nI q)), (2, .int (nI o)), (3, .int (nI g)), (4, .int x), (5, .int y), (6, .ref (a 19))] := hl
  refine lv_aload hx hb dLW_advert_0 (lv_at hl 6 rfl) ?_
  refine lv_iconst (v := nI 0) hx hb dLW_advert_2 (by decide) ?_
  refine lv_aload_n hx hb dLW_advert_3 rfl (lv_at hl 0 rfl) ?_
  refine lv_iload_n hx hb dLW_advert_4 rfl (lv_at hl 1 rfl) ?_
  refine lv_iload_n hx hb dLW_advert_5 rfl (lv_at hl 2 rfl) ?_
  refine lv_iload_n hx hb dLW_advert_6 rfl (lv_at hl 3 rfl) ?_
  refine lv_iload hx hb dLW_advert_7 (lv_at hl 4 rfl) ?_
  refine lv_iload hx hb dLW_advert_9 (lv_at hl 5 rfl) ?_
  refine W.widen (k := 1) (n := 6) (by decide) (by decide) ?_
  refine w_callVi (a := a) (n0 := 19) (w := wC cI cL a) (v := ((dI, dO, dG, dN, dT), (aN, aB), (nS, nP, nR, nG, nO, nU, nT), (tP, tR, tO, tN, tF, tZ), (mP, mN))) (v' := ((dI, dO, dG, (fDB_advert dI dN aN aB nS nP nR nO nU tP tR tO tN tF tZ q o g x y).2.1, dT), ((fDB_advert dI dN aN aB nS nP nR nO nU tP tR tO tN tF tZ q o g x y).2.2.1, (fDB_advert dI dN aN aB nS nP nR nO nU tP tR tO tN tF tZ q o g x y).2.2.2.1), (nS, nP, nR, nG, (fDB_advert dI dN aN aB nS nP nR nO nU tP tR tO tN tF tZ q o g x y).2.2.2.2.1, (fDB_advert dI dN aN aB nS nP nR nO nU tP tR tO tN tF tZ q o g x y).2.2.2.2.2.1, nT), ((fDB_advert dI dN aN aB nS nP nR nO nU tP tR tO tN tF tZ q o g x y).2.2.2.2.2.2.1, (fDB_advert dI dN aN aB nS nP nR nO nU tP tR tO tN tF tZ q o g x y).2.2.2.2.2.2.2.1, (fDB_advert dI dN aN aB nS nP nR nO nU tP tR tO tN tF tZ q o g x y).2.2.2.2.2.2.2.2.1, (fDB_advert dI dN aN aB nS nP nR nO nU tP tR tO tN tF tZ q o g x y).2.2.2.2.2.2.2.2.2.1, tF, (fDB_advert dI dN aN aB nS nP nR nO nU tP tR tO tN tF tZ q o g x y).2.2.2.2.2.2.2.2.2.2), (mP, mN))) (Y := []) (X := [(a 19, .inl (cL, 1, .inr (.inl fo)))]) (As := [.int (nI q), .int (nI o), .int (nI g), .int x, .int y]) (rest := [.int (nI 0), .ref (a 19)]) ⟨hx, hb, hml, hown, hts⟩ (c_DB_advert l hA1 dI dO dG dN dT aN aB nS nP nR nG nO nU nT tP tR tO tN tF tZ mP mN q o g x y hq ho hne hI hg h1 h2 hon hF hZ) (cwV 5 hts (gw_V k430 k431 k432 k27 k433) rfl rfl rfl (by decide +kernel) ⟨Nat.le_of_ble_eq_true rfl, Nat.le_of_ble_eq_true rfl⟩) hK (wC_ad cI cL a _) hP (hA (((dI, dO, dG, dN, dT), (aN, aB), (nS, nP, nR, nG, nO, nU, nT), (tP, tR, tO, tN, tF, tZ), (mP, mN)), fo)) (va_recv (q0 := 0) hK (va_P_left hP) rfl rfl) rfl hl.1 rfl (Nat.le_of_ble_eq_true rfl) dLW_advert_11 ⟨by decide, by decide⟩ (fun q h => by obtain ⟨k, h1, h2⟩ := h; exact ⟨k, by omega, h2⟩) hS (fun H locs hP hS => ?_)
  have hP : va_P D vwCl (wL cI cL a (((dI, dO, dG, (fDB_advert dI dN aN aB nS nP nR nO nU tP tR tO tN tF tZ q o g x y).2.1, dT), ((fDB_advert dI dN aN aB nS nP nR nO nU tP tR tO tN tF tZ q o g x y).2.2.1, (fDB_advert dI dN aN aB nS nP nR nO nU tP tR tO tN tF tZ q o g x y).2.2.2.1), (nS, nP, nR, nG, (fDB_advert dI dN aN aB nS nP nR nO nU tP tR tO tN tF tZ q o g x y).2.2.2.2.1, (fDB_advert dI dN aN aB nS nP nR nO nU tP tR tO tN tF tZ q o g x y).2.2.2.2.2.1, nT), ((fDB_advert dI dN aN aB nS nP nR nO nU tP tR tO tN tF tZ q o g x y).2.2.2.2.2.2.1, (fDB_advert dI dN aN aB nS nP nR nO nU tP tR tO tN tF tZ q o g x y).2.2.2.2.2.2.2.1, (fDB_advert dI dN aN aB nS nP nR nO nU tP tR tO tN tF tZ q o g x y).2.2.2.2.2.2.2.2.1, (fDB_advert dI dN aN aB nS nP nR nO nU tP tR tO tN tF tZ q o g x y).2.2.2.2.2.2.2.2.2.1, tF, (fDB_advert dI dN aN aB nS nP nR nO nU tP tR tO tN tF tZ q o g x y).2.2.2.2.2.2.2.2.2.2), (mP, mN)), fo)) H := hP
  refine lv_i2l (v := ((fDB_advert dI dN aN aB nS nP nR nO nU tP tR tO tN tF tZ q o g x y).1).toInt64) hx hb dLW_advert_14 rfl ?_
  refine ir_last hx hb hK hP (hA (((dI, dO, dG, (fDB_advert dI dN aN aB nS nP nR nO nU tP tR tO tN tF tZ q o g x y).2.1, dT), ((fDB_advert dI dN aN aB nS nP nR nO nU tP tR tO tN tF tZ q o g x y).2.2.1, (fDB_advert dI dN aN aB nS nP nR nO nU tP tR tO tN tF tZ q o g x y).2.2.2.1), (nS, nP, nR, nG, (fDB_advert dI dN aN aB nS nP nR nO nU tP tR tO tN tF tZ q o g x y).2.2.2.2.1, (fDB_advert dI dN aN aB nS nP nR nO nU tP tR tO tN tF tZ q o g x y).2.2.2.2.2.1, nT), ((fDB_advert dI dN aN aB nS nP nR nO nU tP tR tO tN tF tZ q o g x y).2.2.2.2.2.2.1, (fDB_advert dI dN aN aB nS nP nR nO nU tP tR tO tN tF tZ q o g x y).2.2.2.2.2.2.2.1, (fDB_advert dI dN aN aB nS nP nR nO nU tP tR tO tN tF tZ q o g x y).2.2.2.2.2.2.2.2.1, (fDB_advert dI dN aN aB nS nP nR nO nU tP tR tO tN tF tZ q o g x y).2.2.2.2.2.2.2.2.2.1, tF, (fDB_advert dI dN aN aB nS nP nR nO nU tP tR tO tN tF tZ q o g x y).2.2.2.2.2.2.2.2.2.2), (mP, mN)), fo)) hS 19 1 rfl rfl (k := 0) (by decide) (by decide) dLW_advert_15 (fun H locs hP hS => ?_)
  have hP : va_P D vwCl (wL cI cL a (((dI, dO, dG, (fDB_advert dI dN aN aB nS nP nR nO nU tP tR tO tN tF tZ q o g x y).2.1, dT), ((fDB_advert dI dN aN aB nS nP nR nO nU tP tR tO tN tF tZ q o g x y).2.2.1, (fDB_advert dI dN aN aB nS nP nR nO nU tP tR tO tN tF tZ q o g x y).2.2.2.1), (nS, nP, nR, nG, (fDB_advert dI dN aN aB nS nP nR nO nU tP tR tO tN tF tZ q o g x y).2.2.2.2.1, (fDB_advert dI dN aN aB nS nP nR nO nU tP tR tO tN tF tZ q o g x y).2.2.2.2.2.1, nT), ((fDB_advert dI dN aN aB nS nP nR nO nU tP tR tO tN tF tZ q o g x y).2.2.2.2.2.2.1, (fDB_advert dI dN aN aB nS nP nR nO nU tP tR tO tN tF tZ q o g x y).2.2.2.2.2.2.2.1, (fDB_advert dI dN aN aB nS nP nR nO nU tP tR tO tN tF tZ q o g x y).2.2.2.2.2.2.2.2.1, (fDB_advert dI dN aN aB nS nP nR nO nU tP tR tO tN tF tZ q o g x y).2.2.2.2.2.2.2.2.2.1, tF, (fDB_advert dI dN aN aB nS nP nR nO nU tP tR tO tN tF tZ q o g x y).2.2.2.2.2.2.2.2.2.2), (mP, mN)), vp_updL fo 0 (((fDB_advert dI dN aN aB nS nP nR nO nU tP tR tO tN tF tZ q o g x y).1).toInt64))) H := hP
  refine lv_goto hx hb (tgt := 27) dLW_advert_16 (by decide) ?_
  refine lv_iconst (v := 0) hx hb dLW_advert_27 (by decide) ?_
  exact g_iret (v := (((dI, dO, dG, (fDB_advert dI dN aN aB nS nP nR nO nU tP tR tO tN tF tZ q o g x y).2.1, dT), ((fDB_advert dI dN aN aB nS nP nR nO nU tP tR tO tN tF tZ q o g x y).2.2.1, (fDB_advert dI dN aN aB nS nP nR nO nU tP tR tO tN tF tZ q o g x y).2.2.2.1), (nS, nP, nR, nG, (fDB_advert dI dN aN aB nS nP nR nO nU tP tR tO tN tF tZ q o g x y).2.2.2.2.1, (fDB_advert dI dN aN aB nS nP nR nO nU tP tR tO tN tF tZ q o g x y).2.2.2.2.2.1, nT), ((fDB_advert dI dN aN aB nS nP nR nO nU tP tR tO tN tF tZ q o g x y).2.2.2.2.2.2.1, (fDB_advert dI dN aN aB nS nP nR nO nU tP tR tO tN tF tZ q o g x y).2.2.2.2.2.2.2.1, (fDB_advert dI dN aN aB nS nP nR nO nU tP tR tO tN tF tZ q o g x y).2.2.2.2.2.2.2.2.1, (fDB_advert dI dN aN aB nS nP nR nO nU tP tR tO tN tF tZ q o g x y).2.2.2.2.2.2.2.2.2.1, tF, (fDB_advert dI dN aN aB nS nP nR nO nU tP tR tO tN tF tZ q o g x y).2.2.2.2.2.2.2.2.2.2), (mP, mN)), vp_updL fo 0 (((fDB_advert dI dN aN aB nS nP nR nO nU tP tR tO tN tF tZ q o g x y).1).toInt64))) hx hb hr hK hP hS ⟨rfl, rfl⟩ hlocks dLW_advert_28
set_option maxHeartbeats 4000000 in
set_option maxRecDepth 100000 in
theorem h_advert_T1 (l : Launch) (hL : l.stackTraces = false) {D : va_G} {cI cL : ClassId} {a : Nat → Nat} (hIa : aI a 20) (dI : Nat) (dO dG dN dT : Int32) (aN aB : Nat → Int32) (nS nP nR nG : Nat → Int32) (nO nU : Nat → Int64) (nT : Nat → Int32) (tP tR tO tN : Nat → Int32) (tF tZ : Nat) (mP : Nat → Int32) (mN : Int64) (fo : Nat → Int64) (x : Int32) (y : Int32) (z : Int32) (x4 : Int32) (x5 : Int32) (hb0 : fDB_isPort x = false) : Met l yLW_advert wsLW_advert ({ frames := 9, cells := 1, slots := 6, locals := 152 }) (va_Pc [.ref (a 0), .int x, .int y, .int z, .int x4, .int x5, .ref (a 19)] (tPre D (tyC cI cL) (wL cI cL a) (((dI, dO, dG, dN, dT), (aN, aB), (nS, nP, nR, nG, nO, nU, nT), (tP, tR, tO, tN, tF, tZ), (mP, mN)), fo))) (va_Qi (fun (r : Int32) (u : LZ) => r = 1 ∧ u = (((dI, dO, dG, dN, dT), (aN, aB), (nS, nP, nR, nG, nO, nU, nT), (tP, tR, tO, tN, tF, tZ), (mP, mN)), fo)) (gG D (tyC cI cL) (wL cI cL a)) (aS a 20)) 1 6 (aS a 20) := by
  have hA : ∀ v : LZ, va_D (aS a 20) (wL cI cL a v) := fun v => dS (wL_ad cI cL a v) hIa
  have hA1 : ∀ v : CS, va_D (aS a 19) (wC cI cL a v) := fun v => dS (wC_ad cI cL a v) (hIa.le (by decide))
  refine w_enter (by decide) rfl (Nat.le_of_ble_eq_true rfl) ?_
  intro p e s m below meth c ls F ht hK hP hT hl
  obtain ⟨hx, hb, hr, hml, hown, hts, hlocks⟩ := id F
  have hS : va_S (aS a 20) s.heap s.heap [] := va_S.rf
  have hl : lv_has ls 8 [(0, .ref (a 0)), (1, .int x), (2, .int y), (3, .int z), (4, .int x4), (5, .int x5), (6, .ref (a 19))] := hl
  refine lv_aload hx hb dLW_advert_0 (lv_at hl 6 rfl) ?_
  refine lv_iconst (v := nI 0) hx hb dLW_advert_2 (by decide) ?_
  refine lv_aload_n hx hb dLW_advert_3 rfl (lv_at hl 0 rfl) ?_
  refine lv_iload_n hx hb dLW_advert_4 rfl (lv_at hl 1 rfl) ?_
  refine lv_iload_n hx hb dLW_advert_5 rfl (lv_at hl 2 rfl) ?_
  refine lv_iload_n hx hb dLW_advert_6 rfl (lv_at hl 3 rfl) ?_
  refine lv_iload hx hb dLW_advert_7 (lv_at hl 4 rfl) ?_
  refine lv_iload hx hb dLW_advert_9 (lv_at hl 5 rfl) ?_
  refine w_catch1 (t_runV (As := [.int x, .int y, .int z, .int x4, .int x5]) (rest := [.int (nI 0), .ref (a 19)]) ⟨hx, hb, hml, hown, hts⟩ (c_DB_advert_T1 l hL dI dO dG dN dT aN aB nS nP nR nG nO nU nT tP tR tO tN tF tZ mP mN x y z x4 x5 hb0) (cwV 5 hts (gw_V k430 k431 k432 k27 k433) rfl rfl rfl (by decide +kernel) ⟨Nat.le_of_ble_eq_true rfl, Nat.le_of_ble_eq_true rfl⟩) ⟨tPre_blind, va_recv (q0 := 0) hK (va_P_left hP) rfl rfl, fun U hU hW => ⟨rfl, ⟨by rw [hU]; exact va_P_left hP, va_K.moved hW.alike hK⟩, hT.moved hW (fun q cell h _ => by rw [hU]; exact h)⟩⟩ rfl rfl hl.1 rfl (lv_room (Nat.le_of_ble_eq_true rfl)) dLW_advert_11 ⟨by decide, by decide⟩) ht hown (by decide) (hts _ k280) (fun H1 x0 hkeep => ?_)
  refine lv_astore (lv' := [(7, .ref x0), (0, .ref (a 0)), (1, .int x), (2, .int y), (3, .int z), (4, .int x4), (5, .int x5), (6, .ref (a 19))]) hx hb dLW_advert_19 hl (by decide) rfl (fun ls hl => ?_)
  refine lv_iconst (v := 1) hx hb dLW_advert_21 (by decide) ?_
  exact g_iret (v := (((dI, dO, dG, dN, dT), (aN, aB), (nS, nP, nR, nG, nO, nU, nT), (tP, tR, tO, tN, tF, tZ), (mP, mN)), fo)) hx hb hr hK (keep_P hkeep hP) (keep_S hkeep hS) ⟨rfl, rfl⟩ hlocks dLW_advert_22
set_option maxHeartbeats 4000000 in
set_option maxRecDepth 100000 in
theorem h_advert_T2 (l : Launch) (hL : l.stackTraces = false) {D : va_G} {cI cL : ClassId} {a : Nat → Nat} (hIa : aI a 20) (dI : Nat) (dO dG dN dT : Int32) (aN aB : Nat → Int32) (nS nP nR nG : Nat → Int32) (nO nU : Nat → Int64) (nT : Nat → Int32) (tP tR tO tN : Nat → Int32) (tF tZ : Nat) (mP : Nat → Int32) (mN : Int64) (fo : Nat → Int64) (q : Nat) (y : Int32) (z : Int32) (x4 : Int32) (x5 : Int32) (hq : q < 8) (hbad : fDB_isRouter y = true → ¬ y = nI dI → False) : Met l yLW_advert wsLW_advert ({ frames := 9, cells := 1, slots := 6, locals := 153 }) (va_Pc [.ref (a 0), .int (nI q), .int y, .int z, .int x4, .int x5, .ref (a 19)] (tPre D (tyC cI cL) (wL cI cL a) (((dI, dO, dG, dN, dT), (aN, aB), (nS, nP, nR, nG, nO, nU, nT), (tP, tR, tO, tN, tF, tZ), (mP, mN)), fo))) (va_Qi (fun (r : Int32) (u : LZ) => r = 1 ∧ u = (((dI, dO, dG, dN, dT), (aN, aB), (nS, nP, nR, nG, nO, nU, nT), (tP, tR, tO, tN, tF, tZ), (mP, mN)), fo)) (gG D (tyC cI cL) (wL cI cL a)) (aS a 20)) 1 6 (aS a 20) := by
  have hA : ∀ v : LZ, va_D (aS a 20) (wL cI cL a v) := fun v => dS (wL_ad cI cL a v) hIa
  have hA1 : ∀ v : CS, va_D (aS a 19) (wC cI cL a v) := fun v => dS (wC_ad cI cL a v) (hIa.le (by decide))
  refine w_enter (by decide) rfl (Nat.le_of_ble_eq_true rfl) ?_
  intro p e s m below meth c ls F ht hK hP hT hl
  obtain ⟨hx, hb, hr, hml, hown, hts, hlocks⟩ := id F
  have hS : va_S (aS a 20) s.heap s.heap [] := va_S.rf
  have hl : lv_has ls 8 [(0, .ref (a 0)), (1, .int (nI q)), (2, .int y), (3, .int z), (4, .int x4), (5, .int x5), (6, .ref (a 19))] := hl
  refine lv_aload hx hb dLW_advert_0 (lv_at hl 6 rfl) ?_
  refine lv_iconst (v := nI 0) hx hb dLW_advert_2 (by decide) ?_
  refine lv_aload_n hx hb dLW_advert_3 rfl (lv_at hl 0 rfl) ?_
  refine lv_iload_n hx hb dLW_advert_4 rfl (lv_at hl 1 rfl) ?_
  refine lv_iload_n hx hb dLW_advert_5 rfl (lv_at hl 2 rfl) ?_
  refine lv_iload_n hx hb dLW_advert_6 rfl (lv_at hl 3 rfl) ?_
  refine lv_iload hx hb dLW_advert_7 (lv_at hl 4 rfl) ?_
  refine lv_iload hx hb dLW_advert_9 (lv_at hl 5 rfl) ?_
  refine w_catch1 (t_runV (As := [.int (nI q), .int y, .int z, .int x4, .int x5]) (rest := [.int (nI 0), .ref (a 19)]) ⟨hx, hb, hml, hown, hts⟩ (c_DB_advert_T2 l hL dI dO dG dN dT aN aB nS nP nR nG nO nU nT tP tR tO tN tF tZ mP mN q y z x4 x5 hq hbad) (cwV 5 hts (gw_V k430 k431 k432 k27 k433) rfl rfl rfl (by decide +kernel) ⟨Nat.le_of_ble_eq_true rfl, Nat.le_of_ble_eq_true rfl⟩) ⟨tPre_blind, va_recv (q0 := 0) hK (va_P_left hP) rfl rfl, fun U hU hW => ⟨rfl, ⟨by rw [hU]; exact va_P_left hP, va_K.moved hW.alike hK⟩, hT.moved hW (fun q cell h _ => by rw [hU]; exact h)⟩⟩ rfl rfl hl.1 rfl (lv_room (Nat.le_of_ble_eq_true rfl)) dLW_advert_11 ⟨by decide, by decide⟩) ht hown (by decide) (hts _ k280) (fun H1 x0 hkeep => ?_)
  refine lv_astore (lv' := [(7, .ref x0), (0, .ref (a 0)), (1, .int (nI q)), (2, .int y), (3, .int z), (4, .int x4), (5, .int x5), (6, .ref (a 19))]) hx hb dLW_advert_19 hl (by decide) rfl (fun ls hl => ?_)
  refine lv_iconst (v := 1) hx hb dLW_advert_21 (by decide) ?_
  exact g_iret (v := (((dI, dO, dG, dN, dT), (aN, aB), (nS, nP, nR, nG, nO, nU, nT), (tP, tR, tO, tN, tF, tZ), (mP, mN)), fo)) hx hb hr hK (keep_P hkeep hP) (keep_S hkeep hS) ⟨rfl, rfl⟩ hlocks dLW_advert_22
set_option maxHeartbeats 4000000 in
set_option maxRecDepth 100000 in
theorem h_advert_T3 (l : Launch) (hL : l.stackTraces = false) {D : va_G} {cI cL : ClassId} {a : Nat → Nat} (hIa : aI a 20) (dI : Nat) (dO dG dN dT : Int32) (aN aB : Nat → Int32) (nS nP nR nG : Nat → Int32) (nO nU : Nat → Int64) (nT : Nat → Int32) (tP tR tO tN : Nat → Int32) (tF tZ : Nat) (mP : Nat → Int32) (mN : Int64) (fo : Nat → Int64) (q : Nat) (o : Nat) (x : Int32) (x4 : Int32) (x5 : Int32) (hq : q < 8) (ho : o < 64) (hne0 : ¬ o = dI) (hI : dI < 64) (hb0 : fDB_isRouter x = false) : Met l yLW_advert wsLW_advert ({ frames := 9, cells := 1, slots := 6, locals := 152 }) (va_Pc [.ref (a 0), .int (nI q), .int (nI o), .int x, .int x4, .int x5, .ref (a 19)] (tPre D (tyC cI cL) (wL cI cL a) (((dI, dO, dG, dN, dT), (aN, aB), (nS, nP, nR, nG, nO, nU, nT), (tP, tR, tO, tN, tF, tZ), (mP, mN)), fo))) (va_Qi (fun (r : Int32) (u : LZ) => r = 1 ∧ u = (((dI, dO, dG, dN, dT), (aN, aB), (nS, nP, nR, nG, nO, nU, nT), (tP, tR, tO, tN, tF, tZ), (mP, mN)), fo)) (gG D (tyC cI cL) (wL cI cL a)) (aS a 20)) 1 6 (aS a 20) := by
  have hA : ∀ v : LZ, va_D (aS a 20) (wL cI cL a v) := fun v => dS (wL_ad cI cL a v) hIa
  have hA1 : ∀ v : CS, va_D (aS a 19) (wC cI cL a v) := fun v => dS (wC_ad cI cL a v) (hIa.le (by decide))
  refine w_enter (by decide) rfl (Nat.le_of_ble_eq_true rfl) ?_
  intro p e s m below meth c ls F ht hK hP hT hl
  obtain ⟨hx, hb, hr, hml, hown, hts, hlocks⟩ := id F
  have hS : va_S (aS a 20) s.heap s.heap [] := va_S.rf
  have hl : lv_has ls 8 [(0, .ref (a 0)), (1, .int (nI q)), (2, .int (nI o)), (3, .int x), (4, .int x4), (5, .int x5), (6, .ref (a 19))] := hl
  refine lv_aload hx hb dLW_advert_0 (lv_at hl 6 rfl) ?_
  refine lv_iconst (v := nI 0) hx hb dLW_advert_2 (by decide) ?_
  refine lv_aload_n hx hb dLW_advert_3 rfl (lv_at hl 0 rfl) ?_
  refine lv_iload_n hx hb dLW_advert_4 rfl (lv_at hl 1 rfl) ?_
  refine lv_iload_n hx hb dLW_advert_5 rfl (lv_at hl 2 rfl) ?_
  refine lv_iload_n hx hb dLW_advert_6 rfl (lv_at hl 3 rfl) ?_
  refine lv_iload hx hb dLW_advert_7 (lv_at hl 4 rfl) ?_
  refine lv_iload hx hb dLW_advert_9 (lv_at hl 5 rfl) ?_
  refine w_catch1 (t_runV (As := [.int (nI q), .int (nI o), .int x, .int x4, .int x5]) (rest := [.int (nI 0), .ref (a 19)]) ⟨hx, hb, hml, hown, hts⟩ (c_DB_advert_T3 l hL dI dO dG dN dT aN aB nS nP nR nG nO nU nT tP tR tO tN tF tZ mP mN q o x x4 x5 hq ho hne0 hI hb0) (cwV 5 hts (gw_V k430 k431 k432 k27 k433) rfl rfl rfl (by decide +kernel) ⟨Nat.le_of_ble_eq_true rfl, Nat.le_of_ble_eq_true rfl⟩) ⟨tPre_blind, va_recv (q0 := 0) hK (va_P_left hP) rfl rfl, fun U hU hW => ⟨rfl, ⟨by rw [hU]; exact va_P_left hP, va_K.moved hW.alike hK⟩, hT.moved hW (fun q cell h _ => by rw [hU]; exact h)⟩⟩ rfl rfl hl.1 rfl (lv_room (Nat.le_of_ble_eq_true rfl)) dLW_advert_11 ⟨by decide, by decide⟩) ht hown (by decide) (hts _ k280) (fun H1 x0 hkeep => ?_)
  refine lv_astore (lv' := [(7, .ref x0), (0, .ref (a 0)), (1, .int (nI q)), (2, .int (nI o)), (3, .int x), (4, .int x4), (5, .int x5), (6, .ref (a 19))]) hx hb dLW_advert_19 hl (by decide) rfl (fun ls hl => ?_)
  refine lv_iconst (v := 1) hx hb dLW_advert_21 (by decide) ?_
  exact g_iret (v := (((dI, dO, dG, dN, dT), (aN, aB), (nS, nP, nR, nG, nO, nU, nT), (tP, tR, tO, tN, tF, tZ), (mP, mN)), fo)) hx hb hr hK (keep_P hkeep hP) (keep_S hkeep hS) ⟨rfl, rfl⟩ hlocks dLW_advert_22
set_option maxHeartbeats 4000000 in
set_option maxRecDepth 100000 in
theorem h_advert_T4 (l : Launch) (hL : l.stackTraces = false) {D : va_G} {cI cL : ClassId} {a : Nat → Nat} (hIa : aI a 20) (dI : Nat) (dO dG dN dT : Int32) (aN aB : Nat → Int32) (nS nP nR nG : Nat → Int32) (nO nU : Nat → Int64) (nT : Nat → Int32) (tP tR tO tN : Nat → Int32) (tF tZ : Nat) (mP : Nat → Int32) (mN : Int64) (fo : Nat → Int64) (q : Nat) (o : Nat) (g : Nat) (x : Int32) (x5 : Int32) (hq : q < 8) (ho : o < 64) (hne0 : ¬ o = dI) (hI : dI < 64) (hg : g < 64) (hb0 : fDB_isNum x = false) : Met l yLW_advert wsLW_advert ({ frames := 9, cells := 1, slots := 6, locals := 152 }) (va_Pc [.ref (a 0), .int (nI q), .int (nI o), .int (nI g), .int x, .int x5, .ref (a 19)] (tPre D (tyC cI cL) (wL cI cL a) (((dI, dO, dG, dN, dT), (aN, aB), (nS, nP, nR, nG, nO, nU, nT), (tP, tR, tO, tN, tF, tZ), (mP, mN)), fo))) (va_Qi (fun (r : Int32) (u : LZ) => r = 1 ∧ u = (((dI, dO, dG, dN, dT), (aN, aB), (nS, nP, nR, nG, nO, nU, nT), (tP, tR, tO, tN, tF, tZ), (mP, mN)), fo)) (gG D (tyC cI cL) (wL cI cL a)) (aS a 20)) 1 6 (aS a 20) := by
  have hA : ∀ v : LZ, va_D (aS a 20) (wL cI cL a v) := fun v => dS (wL_ad cI cL a v) hIa
  have hA1 : ∀ v : CS, va_D (aS a 19) (wC cI cL a v) := fun v => dS (wC_ad cI cL a v) (hIa.le (by decide))
  refine w_enter (by decide) rfl (Nat.le_of_ble_eq_true rfl) ?_
  intro p e s m below meth c ls F ht hK hP hT hl
  obtain ⟨hx, hb, hr, hml, hown, hts, hlocks⟩ := id F
  have hS : va_S (aS a 20) s.heap s.heap [] := va_S.rf
  have hl : lv_has ls 8 [(0, .ref (a 0)), (1, .int (nI q)), (2, .int (nI o)), (3, .int (nI g)), (4, .int x), (5, .int x5), (6, .ref (a 19))] := hl
  refine lv_aload hx hb dLW_advert_0 (lv_at hl 6 rfl) ?_
  refine lv_iconst (v := nI 0) hx hb dLW_advert_2 (by decide) ?_
  refine lv_aload_n hx hb dLW_advert_3 rfl (lv_at hl 0 rfl) ?_
  refine lv_iload_n hx hb dLW_advert_4 rfl (lv_at hl 1 rfl) ?_
  refine lv_iload_n hx hb dLW_advert_5 rfl (lv_at hl 2 rfl) ?_
  refine lv_iload_n hx hb dLW_advert_6 rfl (lv_at hl 3 rfl) ?_
  refine lv_iload hx hb dLW_advert_7 (lv_at hl 4 rfl) ?_
  refine lv_iload hx hb dLW_advert_9 (lv_at hl 5 rfl) ?_
  refine w_catch1 (t_runV (As := [.int (nI q), .int (nI o), .int (nI g), .int x, .int x5]) (rest := [.int (nI 0), .ref (a 19)]) ⟨hx, hb, hml, hown, hts⟩ (c_DB_advert_T4 l hL dI dO dG dN dT aN aB nS nP nR nG nO nU nT tP tR tO tN tF tZ mP mN q o g x x5 hq ho hne0 hI hg hb0) (cwV 5 hts (gw_V k430 k431 k432 k27 k433) rfl rfl rfl (by decide +kernel) ⟨Nat.le_of_ble_eq_true rfl, Nat.le_of_ble_eq_true rfl⟩) ⟨tPre_blind, va_recv (q0 := 0) hK (va_P_left hP) rfl rfl, fun U hU hW => ⟨rfl, ⟨by rw [hU]; exact va_P_left hP, va_K.moved hW.alike hK⟩, hT.moved hW (fun q cell h _ => by rw [hU]; exact h)⟩⟩ rfl rfl hl.1 rfl (lv_room (Nat.le_of_ble_eq_true rfl)) dLW_advert_11 ⟨by decide, by decide⟩) ht hown (by decide) (hts _ k280) (fun H1 x0 hkeep => ?_)
  refine lv_astore (lv' := [(7, .ref x0), (0, .ref (a 0)), (1, .int (nI q)), (2, .int (nI o)), (3, .int (nI g)), (4, .int x), (5, .int x5), (6, .ref (a 19))]) hx hb dLW_advert_19 hl (by decide) rfl (fun ls hl => ?_)
  refine lv_iconst (v := 1) hx hb dLW_advert_21 (by decide) ?_
  exact g_iret (v := (((dI, dO, dG, dN, dT), (aN, aB), (nS, nP, nR, nG, nO, nU, nT), (tP, tR, tO, tN, tF, tZ), (mP, mN)), fo)) hx hb hr hK (keep_P hkeep hP) (keep_S hkeep hS) ⟨rfl, rfl⟩ hlocks dLW_advert_22
set_option maxHeartbeats 4000000 in
set_option maxRecDepth 100000 in
theorem h_advert_T5 (l : Launch) (hL : l.stackTraces = false) {D : va_G} {cI cL : ClassId} {a : Nat → Nat} (hIa : aI a 20) (dI : Nat) (dO dG dN dT : Int32) (aN aB : Nat → Int32) (nS nP nR nG : Nat → Int32) (nO nU : Nat → Int64) (nT : Nat → Int32) (tP tR tO tN : Nat → Int32) (tF tZ : Nat) (mP : Nat → Int32) (mN : Int64) (fo : Nat → Int64) (q : Nat) (o : Nat) (g : Nat) (x : Int32) (x5 : Int32) (hq : q < 8) (ho : o < 64) (hne0 : ¬ o = dI) (hI : dI < 64) (hg : g < 64) (h1 : ¬ x < 1) (h2 : x ≤ 1000000000) (hoff : fDB_isOn dO q = false) : Met l yLW_advert wsLW_advert ({ frames := 9, cells := 1, slots := 6, locals := 153 }) (va_Pc [.ref (a 0), .int (nI q), .int (nI o), .int (nI g), .int x, .int x5, .ref (a 19)] (tPre D (tyC cI cL) (wL cI cL a) (((dI, dO, dG, dN, dT), (aN, aB), (nS, nP, nR, nG, nO, nU, nT), (tP, tR, tO, tN, tF, tZ), (mP, mN)), fo))) (va_Qi (fun (r : Int32) (u : LZ) => r = 2 ∧ u = (((dI, dO, dG, dN, dT), (aN, aB), (nS, nP, nR, nG, nO, nU, nT), (tP, tR, tO, tN, tF, tZ), (mP, mN)), fo)) (gG D (tyC cI cL) (wL cI cL a)) (aS a 20)) 1 6 (aS a 20) := by
  have hA : ∀ v : LZ, va_D (aS a 20) (wL cI cL a v) := fun v => dS (wL_ad cI cL a v) hIa
  have hA1 : ∀ v : CS, va_D (aS a 19) (wC cI cL a v) := fun v => dS (wC_ad cI cL a v) (hIa.le (by decide))
  refine w_enter (by decide) rfl (Nat.le_of_ble_eq_true rfl) ?_
  intro p e s m below meth c ls F ht hK hP hT hl
  obtain ⟨hx, hb, hr, hml, hown, hts, hlocks⟩ := id F
  have hS : va_S (aS a 20) s.heap s.heap [] := va_S.rf
  have hl : lv_has ls 8 [(0, .ref (a 0)), (1, .int (nI q)), (2, .int (nI o)), (3, .int (nI g)), (4, .int x), (5, .int x5), (6, .ref (a 19))] := hl
  refine lv_aload hx hb dLW_advert_0 (lv_at hl 6 rfl) ?_
  refine lv_iconst (v := nI 0) hx hb dLW_advert_2 (by decide) ?_
  refine lv_aload_n hx hb dLW_advert_3 rfl (lv_at hl 0 rfl) ?_
  refine lv_iload_n hx hb dLW_advert_4 rfl (lv_at hl 1 rfl) ?_
  refine lv_iload_n hx hb dLW_advert_5 rfl (lv_at hl 2 rfl) ?_
  refine lv_iload_n hx hb dLW_advert_6 rfl (lv_at hl 3 rfl) ?_
  refine lv_iload hx hb dLW_advert_7 (lv_at hl 4 rfl) ?_
  refine lv_iload hx hb dLW_advert_9 (lv_at hl 5 rfl) ?_
  refine w_catch2 (t_runV (As := [.int (nI q), .int (nI o), .int (nI g), .int x, .int x5]) (rest := [.int (nI 0), .ref (a 19)]) ⟨hx, hb, hml, hown, hts⟩ (c_DB_advert_T5 l hL dI dO dG dN dT aN aB nS nP nR nG nO nU nT tP tR tO tN tF tZ mP mN q o g x x5 hq ho hne0 hI hg h1 h2 hoff) (cwV 5 hts (gw_V k430 k431 k432 k27 k433) rfl rfl rfl (by decide +kernel) ⟨Nat.le_of_ble_eq_true rfl, Nat.le_of_ble_eq_true rfl⟩) ⟨tPre_blind, va_recv (q0 := 0) hK (va_P_left hP) rfl rfl, fun U hU hW => ⟨rfl, ⟨by rw [hU]; exact va_P_left hP, va_K.moved hW.alike hK⟩, hT.moved hW (fun q cell h _ => by rw [hU]; exact h)⟩⟩ rfl rfl hl.1 rfl (lv_room (Nat.le_of_ble_eq_true rfl)) dLW_advert_11 ⟨by decide, by decide⟩) ht hown (by decide) (by decide) (hts _ k280) hT.2.2.2.2 (hts _ k374) (fun H1 x0 hkeep => ?_)
  refine lv_astore (lv' := [(7, .ref x0), (0, .ref (a 0)), (1, .int (nI q)), (2, .int (nI o)), (3, .int (nI g)), (4, .int x), (5, .int x5), (6, .ref (a 19))]) hx hb dLW_advert_23 hl (by decide) rfl (fun ls hl => ?_)
  refine lv_iconst (v := 2) hx hb dLW_advert_25 (by decide) ?_
  exact g_iret (v := (((dI, dO, dG, dN, dT), (aN, aB), (nS, nP, nR, nG, nO, nU, nT), (tP, tR, tO, tN, tF, tZ), (mP, mN)), fo)) hx hb hr hK (keep_P hkeep hP) (keep_S hkeep hS) ⟨rfl, rfl⟩ hlocks dLW_advert_26
set_option maxHeartbeats 4000000 in
set_option maxRecDepth 100000 in
theorem h_thanks (l : Launch) (hL : l.stackTraces = false) {D : va_G} {cI cL : ClassId} {a : Nat → Nat} (hIa : aI a 20) (dI : Nat) (dO dG dN dT : Int32) (aN aB : Nat → Int32) (nS nP nR nG : Nat → Int32) (nO nU : Nat → Int64) (nT : Nat → Int32) (tP tR tO tN : Nat → Int32) (tF tZ : Nat) (mP : Nat → Int32) (mN : Int64) (fo : Nat → Int64) (q : Nat) (o : Nat) (g : Nat) (x : Int32) (hq : q < 8) (ho : o < 64) (hne : ¬ o = dI) (hI : dI < 64) (hg : g < 64) (h1 : ¬ x < 1) (h2 : x ≤ 1000000000) (hon : fDB_isOn dO q = true) : Met l yLW_thanks wsLW_thanks ({ frames := 4, cells := 1, slots := 6, locals := 91 }) (va_Pc [.ref (a 0), .int (nI q), .int (nI o), .int (nI g), .int x, .ref (a 19)] (tPre D (tyC cI cL) (wL cI cL a) (((dI, dO, dG, dN, dT), (aN, aB), (nS, nP, nR, nG, nO, nU, nT), (tP, tR, tO, tN, tF, tZ), (mP, mN)), fo))) (va_Qi (fun (r : Int32) (u : LZ) => r = 0 ∧ u = (((dI, dO, dG, dN, dT), (aN, aB), (nS, nP, nR, nG, (fDB_thanks aN nS nP nR nO nU q o g x).2.1, (fDB_thanks aN nS nP nR nO nU q o g x).2.2, nT), (tP, tR, tO, tN, tF, tZ), (mP, mN)), vp_updL fo 0 (cond ((fDB_thanks aN nS nP nR nO nU q o g x).1) 1 0))) (gG D (tyC cI cL) (wL cI cL a)) (aS a 20)) 1 6 (aS a 20) := by
  have hA : ∀ v : LZ, va_D (aS a 20) (wL cI cL a v) := fun v => dS (wL_ad cI cL a v) hIa
  have hA1 : ∀ v : CS, va_D (aS a 19) (wC cI cL a v) := fun v => dS (wC_ad cI cL a v) (hIa.le (by decide))
  refine w_enter (by decide) rfl (Nat.le_of_ble_eq_true rfl) ?_
  intro p e s m below meth c ls F ht hK hP hT hl
  obtain ⟨hx, hb, hr, hml, hown, hts, hlocks⟩ := id F
  have hS : va_S (aS a 20) s.heap s.heap [] := va_S.rf
  have hl : lv_has ls 7 [(0, .ref (a 0)), (1, .int (nI q)), (2, .int (nI o)), (3, .int (nI g)), (4, .int x), (5, .ref (a 19))] := hl
  refine lv_aload hx hb dLW_thanks_0 (lv_at hl 5 rfl) ?_
  refine lv_iconst (v := nI 0) hx hb dLW_thanks_2 (by decide) ?_
  refine lv_aload_n hx hb dLW_thanks_3 rfl (lv_at hl 0 rfl) ?_
  refine lv_iload_n hx hb dLW_thanks_4 rfl (lv_at hl 1 rfl) ?_
  refine lv_iload_n hx hb dLW_thanks_5 rfl (lv_at hl 2 rfl) ?_
  refine lv_iload_n hx hb dLW_thanks_6 rfl (lv_at hl 3 rfl) ?_
  refine lv_iload hx hb dLW_thanks_7 (lv_at hl 4 rfl) ?_
  refine W.widen (k := 1) (n := 6) (by decide) (by decide) ?_
  refine w_callVi (a := a) (n0 := 19) (w := wC cI cL a) (v := ((dI, dO, dG, dN, dT), (aN, aB), (nS, nP, nR, nG, nO, nU, nT), (tP, tR, tO, tN, tF, tZ), (mP, mN))) (v' := ((dI, dO, dG, dN, dT), (aN, aB), (nS, nP, nR, nG, (fDB_thanks aN nS nP nR nO nU q o g x).2.1, (fDB_thanks aN nS nP nR nO nU q o g x).2.2, nT), (tP, tR, tO, tN, tF, tZ), (mP, mN))) (Y := []) (X := [(a 19, .inl (cL, 1, .inr (.inl fo)))]) (As := [.int (nI q), .int (nI o), .int (nI g), .int x]) (rest := [.int (nI 0), .ref (a 19)]) ⟨hx, hb, hml, hown, hts⟩ (c_DB_thanks l hA1 dI dO dG dN dT aN aB nS nP nR nG nO nU nT tP tR tO tN tF tZ mP mN q o g x hq ho hne hI hg h1 h2 hon) (cwV 4 hts (gw_V k471 k472 k473 k27 k474) rfl rfl rfl (by decide +kernel) ⟨Nat.le_of_ble_eq_true rfl, Nat.le_of_ble_eq_true rfl⟩) hK (wC_ad cI cL a _) hP (hA (((dI, dO, dG, dN, dT), (aN, aB), (nS, nP, nR, nG, nO, nU, nT), (tP, tR, tO, tN, tF, tZ), (mP, mN)), fo)) (va_recv (q0 := 0) hK (va_P_left hP) rfl rfl) rfl hl.1 rfl (Nat.le_of_ble_eq_true rfl) dLW_thanks_9 ⟨by decide, by decide⟩ (fun q h => by obtain ⟨k, h1, h2⟩ := h; exact ⟨k, by omega, h2⟩) hS (fun H locs hP hS => ?_)
  have hP : va_P D vwCl (wL cI cL a (((dI, dO, dG, dN, dT), (aN, aB), (nS, nP, nR, nG, (fDB_thanks aN nS nP nR nO nU q o g x).2.1, (fDB_thanks aN nS nP nR nO nU q o g x).2.2, nT), (tP, tR, tO, tN, tF, tZ), (mP, mN)), fo)) H := hP
  refine lv_if_eqb hx hb (tgt := 19) dLW_thanks_12 (by decide) (fun c1 => ?_) (fun c1 => ?_)
  · refine lv_lconst (v := 0) hx hb dLW_thanks_19 (by decide) ?_
    refine ir_last hx hb hK hP (hA (((dI, dO, dG, dN, dT), (aN, aB), (nS, nP, nR, nG, (fDB_thanks aN nS nP nR nO nU q o g x).2.1, (fDB_thanks aN nS nP nR nO nU q o g x).2.2, nT), (tP, tR, tO, tN, tF, tZ), (mP, mN)), fo)) hS 19 1 rfl rfl (k := 0) (by decide) (by decide) dLW_thanks_20 (fun H locs hP hS => ?_)
    have hP : va_P D vwCl (wL cI cL a (((dI, dO, dG, dN, dT), (aN, aB), (nS, nP, nR, nG, (fDB_thanks aN nS nP nR nO nU q o g x).2.1, (fDB_thanks aN nS nP nR nO nU q o g x).2.2, nT), (tP, tR, tO, tN, tF, tZ), (mP, mN)), vp_updL fo 0 (0))) H := hP
    refine lv_goto hx hb (tgt := 32) dLW_thanks_21 (by decide) ?_
    refine lv_iconst (v := 0) hx hb dLW_thanks_32 (by decide) ?_
    exact g_iret (v := (((dI, dO, dG, dN, dT), (aN, aB), (nS, nP, nR, nG, (fDB_thanks aN nS nP nR nO nU q o g x).2.1, (fDB_thanks aN nS nP nR nO nU q o g x).2.2, nT), (tP, tR, tO, tN, tF, tZ), (mP, mN)), vp_updL fo 0 0)) hx hb hr hK hP hS ⟨rfl, by rw [cond_no c1]⟩ hlocks dLW_thanks_33
  · refine lv_lconst (v := 1) hx hb dLW_thanks_15 (by decide) ?_
    refine lv_goto hx hb (tgt := 20) dLW_thanks_16 (by decide) ?_
    refine ir_last hx hb hK hP (hA (((dI, dO, dG, dN, dT), (aN, aB), (nS, nP, nR, nG, (fDB_thanks aN nS nP nR nO nU q o g x).2.1, (fDB_thanks aN nS nP nR nO nU q o g x).2.2, nT), (tP, tR, tO, tN, tF, tZ), (mP, mN)), fo)) hS 19 1 rfl rfl (k := 0) (by decide) (by decide) dLW_thanks_20 (fun H locs hP hS => ?_)
    have hP : va_P D vwCl (wL cI cL a (((dI, dO, dG, dN, dT), (aN, aB), (nS, nP, nR, nG, (fDB_thanks aN nS nP nR nO nU q o g x).2.1, (fDB_thanks aN nS nP nR nO nU q o g x).2.2, nT), (tP, tR, tO, tN, tF, tZ), (mP, mN)), vp_updL fo 0 (1))) H := hP
    refine lv_goto hx hb (tgt := 32) dLW_thanks_21 (by decide) ?_
    refine lv_iconst (v := 0) hx hb dLW_thanks_32 (by decide) ?_
    exact g_iret (v := (((dI, dO, dG, dN, dT), (aN, aB), (nS, nP, nR, nG, (fDB_thanks aN nS nP nR nO nU q o g x).2.1, (fDB_thanks aN nS nP nR nO nU q o g x).2.2, nT), (tP, tR, tO, tN, tF, tZ), (mP, mN)), vp_updL fo 0 1)) hx hb hr hK hP hS ⟨rfl, by rw [cond_yes c1]⟩ hlocks dLW_thanks_33
set_option maxHeartbeats 4000000 in
set_option maxRecDepth 100000 in
theorem h_thanks_T1 (l : Launch) (hL : l.stackTraces = false) {D : va_G} {cI cL : ClassId} {a : Nat → Nat} (hIa : aI a 20) (dI : Nat) (dO dG dN dT : Int32) (aN aB : Nat → Int32) (nS nP nR nG : Nat → Int32) (nO nU : Nat → Int64) (nT : Nat → Int32) (tP tR tO tN : Nat → Int32) (tF tZ : Nat) (mP : Nat → Int32) (mN : Int64) (fo : Nat → Int64) (x : Int32) (y : Int32) (z : Int32) (x4 : Int32) (hb0 : fDB_isPort x = false) : Met l yLW_thanks wsLW_thanks ({ frames := 9, cells := 1, slots := 6, locals := 151 }) (va_Pc [.ref (a 0), .int x, .int y, .int z, .int x4, .ref (a 19)] (tPre D (tyC cI cL) (wL cI cL a) (((dI, dO, dG, dN, dT), (aN, aB), (nS, nP, nR, nG, nO, nU, nT), (tP, tR, tO, tN, tF, tZ), (mP, mN)), fo))) (va_Qi (fun (r : Int32) (u : LZ) => r = 1 ∧ u = (((dI, dO, dG, dN, dT), (aN, aB), (nS, nP, nR, nG, nO, nU, nT), (tP, tR, tO, tN, tF, tZ), (mP, mN)), fo)) (gG D (tyC cI cL) (wL cI cL a)) (aS a 20)) 1 6 (aS a 20) := by
  have hA : ∀ v : LZ, va_D (aS a 20) (wL cI cL a v) := fun v => dS (wL_ad cI cL a v) hIa
  have hA1 : ∀ v : CS, va_D (aS a 19) (wC cI cL a v) := fun v => dS (wC_ad cI cL a v) (hIa.le (by decide))
  refine w_enter (by decide) rfl (Nat.le_of_ble_eq_true rfl) ?_
  intro p e s m below meth c ls F ht hK hP hT hl
  obtain ⟨hx, hb, hr, hml, hown, hts, hlocks⟩ := id F
  have hS : va_S (aS a 20) s.heap s.heap [] := va_S.rf
  have hl : lv_has ls 7 [(0, .ref (a 0)), (1, .int x), (2, .int y), (3, .int z), (4, .int x4), (5, .ref (a 19))] := hl
  refine lv_aload hx hb dLW_thanks_0 (lv_at hl 5 rfl) ?_
  refine lv_iconst (v := nI 0) hx hb dLW_thanks_2 (by decide) ?_
  refine lv_aload_n hx hb dLW_thanks_3 rfl (lv_at hl 0 rfl) ?_
  refine lv_iload_n hx hb dLW_thanks_4 rfl (lv_at hl 1 rfl) ?_
  refine lv_iload_n hx hb dLW_thanks_5 rfl (lv_at hl 2 rfl) ?_
  refine lv_iload_n hx hb dLW_thanks_6 rfl (lv_at hl 3 rfl) ?_
  refine lv_iload hx hb dLW_thanks_7 (lv_at hl 4 rfl) ?_
  refine w_catch1 (t_runV (As := [.int x, .int y, .int z, .int x4]) (rest := [.int (nI 0), .ref (a 19)]) ⟨hx, hb, hml, hown, hts⟩ (c_DB_thanks_T1 l hL dI dO dG dN dT aN aB nS nP nR nG nO nU nT tP tR tO tN tF tZ mP mN x y z x4 hb0) (cwV 4 hts (gw_V k471 k472 k473 k27 k474) rfl rfl rfl (by decide +kernel) ⟨Nat.le_of_ble_eq_true rfl, Nat.le_of_ble_eq_true rfl⟩) ⟨tPre_blind, va_recv (q0 := 0) hK (va_P_left hP) rfl rfl, fun U hU hW => ⟨rfl, ⟨by rw [hU]; exact va_P_left hP, va_K.moved hW.alike hK⟩, hT.moved hW (fun q cell h _ => by rw [hU]; exact h)⟩⟩ rfl rfl hl.1 rfl (lv_room (Nat.le_of_ble_eq_true rfl)) dLW_thanks_9 ⟨by decide, by decide⟩) ht hown (by decide) (hts _ k280) (fun H1 x0 hkeep => ?_)
  refine lv_astore (lv' := [(6, .ref x0), (0, .ref (a 0)), (1, .int x), (2, .int y), (3, .int z), (4, .int x4), (5, .ref (a 19))]) hx hb dLW_thanks_24 hl (by decide) rfl (fun ls hl => ?_)
  refine lv_iconst (v := 1) hx hb dLW_thanks_26 (by decide) ?_
  exact g_iret (v := (((dI, dO, dG, dN, dT), (aN, aB), (nS, nP, nR, nG, nO, nU, nT), (tP, tR, tO, tN, tF, tZ), (mP, mN)), fo)) hx hb hr hK (keep_P hkeep hP) (keep_S hkeep hS) ⟨rfl, rfl⟩ hlocks dLW_thanks_27
set_option maxHeartbeats 4000000 in
set_option maxRecDepth 100000 in
theorem h_thanks_T2 (l : Launch) (hL : l.stackTraces = false) {D : va_G} {cI cL : ClassId} {a : Nat → Nat} (hIa : aI a 20) (dI : Nat) (dO dG dN dT : Int32) (aN aB : Nat → Int32) (nS nP nR nG : Nat → Int32) (nO nU : Nat → Int64) (nT : Nat → Int32) (tP tR tO tN : Nat → Int32) (tF tZ : Nat) (mP : Nat → Int32) (mN : Int64) (fo : Nat → Int64) (q : Nat) (y : Int32) (z : Int32) (x4 : Int32) (hq : q < 8) (hbad : fDB_isRouter y = true → ¬ y = nI dI → False) : Met l yLW_thanks wsLW_thanks ({ frames := 9, cells := 1, slots := 6, locals := 152 }) (va_Pc [.ref (a 0), .int (nI q), .int y, .int z, .int x4, .ref (a 19)] (tPre D (tyC cI cL) (wL cI cL a) (((dI, dO, dG, dN, dT), (aN, aB), (nS, nP, nR, nG, nO, nU, nT), (tP, tR, tO, tN, tF, tZ), (mP, mN)), fo))) (va_Qi (fun (r : Int32) (u : LZ) => r = 1 ∧ u = (((dI, dO, dG, dN, dT), (aN, aB), (nS, nP, nR, nG, nO, nU, nT), (tP, tR, tO, tN, tF, tZ), (mP, mN)), fo)) (gG D (tyC cI cL) (wL cI cL a)) (aS a 20)) 1 6 (aS a 20) := by
  have hA : ∀ v : LZ, va_D (aS a 20) (wL cI cL a v) := fun v => dS (wL_ad cI cL a v) hIa
  have hA1 : ∀ v : CS, va_D (aS a 19) (wC cI cL a v) := fun v => dS (wC_ad cI cL a v) (hIa.le (by decide))
  refine w_enter (by decide) rfl (Nat.le_of_ble_eq_true rfl) ?_
  intro p e s m below meth c ls F ht hK hP hT hl
  obtain ⟨hx, hb, hr, hml, hown, hts, hlocks⟩ := id F
  have hS : va_S (aS a 20) s.heap s.heap [] := va_S.rf
  have hl : lv_has ls 7 [(0, .ref (a 0)), (1, .int (nI q)), (2, .int y), (3, .int z), (4, .int x4), (5, .ref (a 19))] := hl
  refine lv_aload hx hb dLW_thanks_0 (lv_at hl 5 rfl) ?_
  refine lv_iconst (v := nI 0) hx hb dLW_thanks_2 (by decide) ?_
  refine lv_aload_n hx hb dLW_thanks_3 rfl (lv_at hl 0 rfl) ?_
  refine lv_iload_n hx hb dLW_thanks_4 rfl (lv_at hl 1 rfl) ?_
  refine lv_iload_n hx hb dLW_thanks_5 rfl (lv_at hl 2 rfl) ?_
  refine lv_iload_n hx hb dLW_thanks_6 rfl (lv_at hl 3 rfl) ?_
  refine lv_iload hx hb dLW_thanks_7 (lv_at hl 4 rfl) ?_
  refine w_catch1 (t_runV (As := [.int (nI q), .int y, .int z, .int x4]) (rest := [.int (nI 0), .ref (a 19)]) ⟨hx, hb, hml, hown, hts⟩ (c_DB_thanks_T2 l hL dI dO dG dN dT aN aB nS nP nR nG nO nU nT tP tR tO tN tF tZ mP mN q y z x4 hq hbad) (cwV 4 hts (gw_V k471 k472 k473 k27 k474) rfl rfl rfl (by decide +kernel) ⟨Nat.le_of_ble_eq_true rfl, Nat.le_of_ble_eq_true rfl⟩) ⟨tPre_blind, va_recv (q0 := 0) hK (va_P_left hP) rfl rfl, fun U hU hW => ⟨rfl, ⟨by rw [hU]; exact va_P_left hP, va_K.moved hW.alike hK⟩, hT.moved hW (fun q cell h _ => by rw [hU]; exact h)⟩⟩ rfl rfl hl.1 rfl (lv_room (Nat.le_of_ble_eq_true rfl)) dLW_thanks_9 ⟨by decide, by decide⟩) ht hown (by decide) (hts _ k280) (fun H1 x0 hkeep => ?_)
  refine lv_astore (lv' := [(6, .ref x0), (0, .ref (a 0)), (1, .int (nI q)), (2, .int y), (3, .int z), (4, .int x4), (5, .ref (a 19))]) hx hb dLW_thanks_24 hl (by decide) rfl (fun ls hl => ?_)
  refine lv_iconst (v := 1) hx hb dLW_thanks_26 (by decide) ?_
  exact g_iret (v := (((dI, dO, dG, dN, dT), (aN, aB), (nS, nP, nR, nG, nO, nU, nT), (tP, tR, tO, tN, tF, tZ), (mP, mN)), fo)) hx hb hr hK (keep_P hkeep hP) (keep_S hkeep hS) ⟨rfl, rfl⟩ hlocks dLW_thanks_27
set_option maxHeartbeats 4000000 in
set_option maxRecDepth 100000 in
theorem h_thanks_T3 (l : Launch) (hL : l.stackTraces = false) {D : va_G} {cI cL : ClassId} {a : Nat → Nat} (hIa : aI a 20) (dI : Nat) (dO dG dN dT : Int32) (aN aB : Nat → Int32) (nS nP nR nG : Nat → Int32) (nO nU : Nat → Int64) (nT : Nat → Int32) (tP tR tO tN : Nat → Int32) (tF tZ : Nat) (mP : Nat → Int32) (mN : Int64) (fo : Nat → Int64) (q : Nat) (o : Nat) (x : Int32) (x4 : Int32) (hq : q < 8) (ho : o < 64) (hne0 : ¬ o = dI) (hI : dI < 64) (hb0 : fDB_isRouter x = false) : Met l yLW_thanks wsLW_thanks ({ frames := 9, cells := 1, slots := 6, locals := 151 }) (va_Pc [.ref (a 0), .int (nI q), .int (nI o), .int x, .int x4, .ref (a 19)] (tPre D (tyC cI cL) (wL cI cL a) (((dI, dO, dG, dN, dT), (aN, aB), (nS, nP, nR, nG, nO, nU, nT), (tP, tR, tO, tN, tF, tZ), (mP, mN)), fo))) (va_Qi (fun (r : Int32) (u : LZ) => r = 1 ∧ u = (((dI, dO, dG, dN, dT), (aN, aB), (nS, nP, nR, nG, nO, nU, nT), (tP, tR, tO, tN, tF, tZ), (mP, mN)), fo)) (gG D (tyC cI cL) (wL cI cL a)) (aS a 20)) 1 6 (aS a 20) := by
  have hA : ∀ v : LZ, va_D (aS a 20) (wL cI cL a v) := fun v => dS (wL_ad cI cL a v) hIa
  have hA1 : ∀ v : CS, va_D (aS a 19) (wC cI cL a v) := fun v => dS (wC_ad cI cL a v) (hIa.le (by decide))
  refine w_enter (by decide) rfl (Nat.le_of_ble_eq_true rfl) ?_
  intro p e s m below meth c ls F ht hK hP hT hl
  obtain ⟨hx, hb, hr, hml, hown, hts, hlocks⟩ := id F
  have hS : va_S (aS a 20) s.heap s.heap [] := va_S.rf
  have hl : lv_has ls 7 [(0, .ref (a 0)), (1, .int (nI q)), (2, .int (nI o)), (3, .int x), (4, .int x4), (5, .ref (a 19))] := hl
  refine lv_aload hx hb dLW_thanks_0 (lv_at hl 5 rfl) ?_
  refine lv_iconst (v := nI 0) hx hb dLW_thanks_2 (by decide) ?_
  refine lv_aload_n hx hb dLW_thanks_3 rfl (lv_at hl 0 rfl) ?_
  refine lv_iload_n hx hb dLW_thanks_4 rfl (lv_at hl 1 rfl) ?_
  refine lv_iload_n hx hb dLW_thanks_5 rfl (lv_at hl 2 rfl) ?_
  refine lv_iload_n hx hb dLW_thanks_6 rfl (lv_at hl 3 rfl) ?_
  refine lv_iload hx hb dLW_thanks_7 (lv_at hl 4 rfl) ?_
  refine w_catch1 (t_runV (As := [.int (nI q), .int (nI o), .int x, .int x4]) (rest := [.int (nI 0), .ref (a 19)]) ⟨hx, hb, hml, hown, hts⟩ (c_DB_thanks_T3 l hL dI dO dG dN dT aN aB nS nP nR nG nO nU nT tP tR tO tN tF tZ mP mN q o x x4 hq ho hne0 hI hb0) (cwV 4 hts (gw_V k471 k472 k473 k27 k474) rfl rfl rfl (by decide +kernel) ⟨Nat.le_of_ble_eq_true rfl, Nat.le_of_ble_eq_true rfl⟩) ⟨tPre_blind, va_recv (q0 := 0) hK (va_P_left hP) rfl rfl, fun U hU hW => ⟨rfl, ⟨by rw [hU]; exact va_P_left hP, va_K.moved hW.alike hK⟩, hT.moved hW (fun q cell h _ => by rw [hU]; exact h)⟩⟩ rfl rfl hl.1 rfl (lv_room (Nat.le_of_ble_eq_true rfl)) dLW_thanks_9 ⟨by decide, by decide⟩) ht hown (by decide) (hts _ k280) (fun H1 x0 hkeep => ?_)
  refine lv_astore (lv' := [(6, .ref x0), (0, .ref (a 0)), (1, .int (nI q)), (2, .int (nI o)), (3, .int x), (4, .int x4), (5, .ref (a 19))]) hx hb dLW_thanks_24 hl (by decide) rfl (fun ls hl => ?_)
  refine lv_iconst (v := 1) hx hb dLW_thanks_26 (by decide) ?_
  exact g_iret (v := (((dI, dO, dG, dN, dT), (aN, aB), (nS, nP, nR, nG, nO, nU, nT), (tP, tR, tO, tN, tF, tZ), (mP, mN)), fo)) hx hb hr hK (keep_P hkeep hP) (keep_S hkeep hS) ⟨rfl, rfl⟩ hlocks dLW_thanks_27
set_option maxHeartbeats 4000000 in
set_option maxRecDepth 100000 in
theorem h_thanks_T4 (l : Launch) (hL : l.stackTraces = false) {D : va_G} {cI cL : ClassId} {a : Nat → Nat} (hIa : aI a 20) (dI : Nat) (dO dG dN dT : Int32) (aN aB : Nat → Int32) (nS nP nR nG : Nat → Int32) (nO nU : Nat → Int64) (nT : Nat → Int32) (tP tR tO tN : Nat → Int32) (tF tZ : Nat) (mP : Nat → Int32) (mN : Int64) (fo : Nat → Int64) (q : Nat) (o : Nat) (g : Nat) (x : Int32) (hq : q < 8) (ho : o < 64) (hne0 : ¬ o = dI) (hI : dI < 64) (hg : g < 64) (hb0 : fDB_isNum x = false) : Met l yLW_thanks wsLW_thanks ({ frames := 9, cells := 1, slots := 6, locals := 151 }) (va_Pc [.ref (a 0), .int (nI q), .int (nI o), .int (nI g), .int x, .ref (a 19)] (tPre D (tyC cI cL) (wL cI cL a) (((dI, dO, dG, dN, dT), (aN, aB), (nS, nP, nR, nG, nO, nU, nT), (tP, tR, tO, tN, tF, tZ), (mP, mN)), fo))) (va_Qi (fun (r : Int32) (u : LZ) => r = 1 ∧ u = (((dI, dO, dG, dN, dT), (aN, aB), (nS, nP, nR, nG, nO, nU, nT), (tP, tR, tO, tN, tF, tZ), (mP, mN)), fo)) (gG D (tyC cI cL) (wL cI cL a)) (aS a 20)) 1 6 (aS a 20) := by
  have hA : ∀ v : LZ, va_D (aS a 20) (wL cI cL a v) := fun v => dS (wL_ad cI cL a v) hIa
  have hA1 : ∀ v : CS, va_D (aS a 19) (wC cI cL a v) := fun v => dS (wC_ad cI cL a v) (hIa.le (by decide))
  refine w_enter (by decide) rfl (Nat.le_of_ble_eq_true rfl) ?_
  intro p e s m below meth c ls F ht hK hP hT hl
  obtain ⟨hx, hb, hr, hml, hown, hts, hlocks⟩ := id F
  have hS : va_S (aS a 20) s.heap s.heap [] := va_S.rf
  have hl : lv_has ls 7 [(0, .ref (a 0)), (1, .int (nI q)), (2, .int (nI o)), (3, .int (nI g)), (4, .int x), (5, .ref (a 19))] := hl
  refine lv_aload hx hb dLW_thanks_0 (lv_at hl 5 rfl) ?_
  refine lv_iconst (v := nI 0) hx hb dLW_thanks_2 (by decide) ?_
  refine lv_aload_n hx hb dLW_thanks_3 rfl (lv_at hl 0 rfl) ?_
  refine lv_iload_n hx hb dLW_thanks_4 rfl (lv_at hl 1 rfl) ?_
  refine lv_iload_n hx hb dLW_thanks_5 rfl (lv_at hl 2 rfl) ?_
  refine lv_iload_n hx hb dLW_thanks_6 rfl (lv_at hl 3 rfl) ?_
  refine lv_iload hx hb dLW_thanks_7 (lv_at hl 4 rfl) ?_
  refine w_catch1 (t_runV (As := [.int (nI q), .int (nI o), .int (nI g), .int x]) (rest := [.int (nI 0), .ref (a 19)]) ⟨hx, hb, hml, hown, hts⟩ (c_DB_thanks_T4 l hL dI dO dG dN dT aN aB nS nP nR nG nO nU nT tP tR tO tN tF tZ mP mN q o g x hq ho hne0 hI hg hb0) (cwV 4 hts (gw_V k471 k472 k473 k27 k474) rfl rfl rfl (by decide +kernel) ⟨Nat.le_of_ble_eq_true rfl, Nat.le_of_ble_eq_true rfl⟩) ⟨tPre_blind, va_recv (q0 := 0) hK (va_P_left hP) rfl rfl, fun U hU hW => ⟨rfl, ⟨by rw [hU]; exact va_P_left hP, va_K.moved hW.alike hK⟩, hT.moved hW (fun q cell h _ => by rw [hU]; exact h)⟩⟩ rfl rfl hl.1 rfl (lv_room (Nat.le_of_ble_eq_true rfl)) dLW_thanks_9 ⟨by decide, by decide⟩) ht hown (by decide) (hts _ k280) (fun H1 x0 hkeep => ?_)
  refine lv_astore (lv' := [(6, .ref x0), (0, .ref (a 0)), (1, .int (nI q)), (2, .int (nI o)), (3, .int (nI g)), (4, .int x), (5, .ref (a 19))]) hx hb dLW_thanks_24 hl (by decide) rfl (fun ls hl => ?_)
  refine lv_iconst (v := 1) hx hb dLW_thanks_26 (by decide) ?_
  exact g_iret (v := (((dI, dO, dG, dN, dT), (aN, aB), (nS, nP, nR, nG, nO, nU, nT), (tP, tR, tO, tN, tF, tZ), (mP, mN)), fo)) hx hb hr hK (keep_P hkeep hP) (keep_S hkeep hS) ⟨rfl, rfl⟩ hlocks dLW_thanks_27
set_option maxHeartbeats 4000000 in
set_option maxRecDepth 100000 in
theorem h_thanks_T5 (l : Launch) (hL : l.stackTraces = false) {D : va_G} {cI cL : ClassId} {a : Nat → Nat} (hIa : aI a 20) (dI : Nat) (dO dG dN dT : Int32) (aN aB : Nat → Int32) (nS nP nR nG : Nat → Int32) (nO nU : Nat → Int64) (nT : Nat → Int32) (tP tR tO tN : Nat → Int32) (tF tZ : Nat) (mP : Nat → Int32) (mN : Int64) (fo : Nat → Int64) (q : Nat) (o : Nat) (g : Nat) (x : Int32) (hq : q < 8) (ho : o < 64) (hne0 : ¬ o = dI) (hI : dI < 64) (hg : g < 64) (h1 : ¬ x < 1) (h2 : x ≤ 1000000000) (hoff : fDB_isOn dO q = false) : Met l yLW_thanks wsLW_thanks ({ frames := 9, cells := 1, slots := 6, locals := 152 }) (va_Pc [.ref (a 0), .int (nI q), .int (nI o), .int (nI g), .int x, .ref (a 19)] (tPre D (tyC cI cL) (wL cI cL a) (((dI, dO, dG, dN, dT), (aN, aB), (nS, nP, nR, nG, nO, nU, nT), (tP, tR, tO, tN, tF, tZ), (mP, mN)), fo))) (va_Qi (fun (r : Int32) (u : LZ) => r = 2 ∧ u = (((dI, dO, dG, dN, dT), (aN, aB), (nS, nP, nR, nG, nO, nU, nT), (tP, tR, tO, tN, tF, tZ), (mP, mN)), fo)) (gG D (tyC cI cL) (wL cI cL a)) (aS a 20)) 1 6 (aS a 20) := by
  have hA : ∀ v : LZ, va_D (aS a 20) (wL cI cL a v) := fun v => dS (wL_ad cI cL a v) hIa
  have hA1 : ∀ v : CS, va_D (aS a 19) (wC cI cL a v) := fun v => dS (wC_ad cI cL a v) (hIa.le (by decide))
  refine w_enter (by decide) rfl (Nat.le_of_ble_eq_true rfl) ?_
  intro p e s m below meth c ls F ht hK hP hT hl
  obtain ⟨hx, hb, hr, hml, hown, hts, hlocks⟩ := id F
  have hS : va_S (aS a 20) s.heap s.heap [] := va_S.rf
  have hl : lv_has ls 7 [(0, .ref (a 0)), (1, .int (nI q)), (2, .int (nI o)), (3, .int (nI g)), (4, .int x), (5, .ref (a 19))] := hl
  refine lv_aload hx hb dLW_thanks_0 (lv_at hl 5 rfl) ?_
  refine lv_iconst (v := nI 0) hx hb dLW_thanks_2 (by decide) ?_
  refine lv_aload_n hx hb dLW_thanks_3 rfl (lv_at hl 0 rfl) ?_
  refine lv_iload_n hx hb dLW_thanks_4 rfl (lv_at hl 1 rfl) ?_
  refine lv_iload_n hx hb dLW_thanks_5 rfl (lv_at hl 2 rfl) ?_
  refine lv_iload_n hx hb dLW_thanks_6 rfl (lv_at hl 3 rfl) ?_
  refine lv_iload hx hb dLW_thanks_7 (lv_at hl 4 rfl) ?_
  refine w_catch2 (t_runV (As := [.int (nI q), .int (nI o), .int (nI g), .int x]) (rest := [.int (nI 0), .ref (a 19)]) ⟨hx, hb, hml, hown, hts⟩ (c_DB_thanks_T5 l hL dI dO dG dN dT aN aB nS nP nR nG nO nU nT tP tR tO tN tF tZ mP mN q o g x hq ho hne0 hI hg h1 h2 hoff) (cwV 4 hts (gw_V k471 k472 k473 k27 k474) rfl rfl rfl (by decide +kernel) ⟨Nat.le_of_ble_eq_true rfl, Nat.le_of_ble_eq_true rfl⟩) ⟨tPre_blind, va_recv (q0 := 0) hK (va_P_left hP) rfl rfl, fun U hU hW => ⟨rfl, ⟨by rw [hU]; exact va_P_left hP, va_K.moved hW.alike hK⟩, hT.moved hW (fun q cell h _ => by rw [hU]; exact h)⟩⟩ rfl rfl hl.1 rfl (lv_room (Nat.le_of_ble_eq_true rfl)) dLW_thanks_9 ⟨by decide, by decide⟩) ht hown (by decide) (by decide) (hts _ k280) hT.2.2.2.2 (hts _ k374) (fun H1 x0 hkeep => ?_)
  refine lv_astore (lv' := [(6, .ref x0), (0, .ref (a 0)), (1, .int (nI q)), (2, .int (nI o)), (3, .int (nI g)), (4, .int x), (5, .ref (a 19))]) hx hb dLW_thanks_28 hl (by decide) rfl (fun ls hl => ?_)
  refine lv_iconst (v := 2) hx hb dLW_thanks_30 (by decide) ?_
  exact g_iret (v := (((dI, dO, dG, dN, dT), (aN, aB), (nS, nP, nR, nG, nO, nU, nT), (tP, tR, tO, tN, tF, tZ), (mP, mN)), fo)) hx hb hr hK (keep_P hkeep hP) (keep_S hkeep hS) ⟨rfl, rfl⟩ hlocks dLW_thanks_31
set_option maxHeartbeats 4000000 in
set_option maxRecDepth 100000 in
theorem h_forget (l : Launch) (hL : l.stackTraces = false) {D : va_G} {cI cL : ClassId} {a : Nat → Nat} (hIa : aI a 20) (dI : Nat) (dO dG dN dT : Int32) (aN aB : Nat → Int32) (nS nP nR nG : Nat → Int32) (nO nU : Nat → Int64) (nT : Nat → Int32) (tP tR tO tN : Nat → Int32) (tF tZ : Nat) (mP : Nat → Int32) (mN : Int64) (fo : Nat → Int64) (g : Nat) (hg : g < 64) : Met l yLW_forget wsLW_forget ({ frames := 3, cells := 1, slots := 6, locals := 68 }) (va_Pc [.ref (a 0), .int (nI g), .ref (a 19)] (tPre D (tyC cI cL) (wL cI cL a) (((dI, dO, dG, dN, dT), (aN, aB), (nS, nP, nR, nG, nO, nU, nT), (tP, tR, tO, tN, tF, tZ), (mP, mN)), fo))) (va_Qi (fun (r : Int32) (u : LZ) => r = 0 ∧ u = (((dI, dO, dG, dN, dT), ((fDB_forget aN aB nO nU g).2.1, (fDB_forget aN aB nO nU g).2.2.1), (nS, nP, nR, nG, (fDB_forget aN aB nO nU g).2.2.2.1, (fDB_forget aN aB nO nU g).2.2.2.2, nT), (tP, tR, tO, tN, tF, tZ), (mP, mN)), vp_updL fo 0 (cond ((fDB_forget aN aB nO nU g).1) 1 0))) (gG D (tyC cI cL) (wL cI cL a)) (aS a 20)) 1 6 (aS a 20) := by
  have hA : ∀ v : LZ, va_D (aS a 20) (wL cI cL a v) := fun v => dS (wL_ad cI cL a v) hIa
  have hA1 : ∀ v : CS, va_D (aS a 19) (wC cI cL a v) := fun v => dS (wC_ad cI cL a v) (hIa.le (by decide))
  refine w_enter (by decide) rfl (Nat.le_of_ble_eq_true rfl) ?_
  intro p e s m below meth c ls F ht hK hP hT hl
  obtain ⟨hx, hb, hr, hml, hown, hts, hlocks⟩ := id F
  have hS : va_S (aS a 20) s.heap s.heap [] := va_S.rf
  have hl : lv_has ls 4 [(0, .ref (a 0)), (1, .int (nI g)), (2, .ref (a 19))] := hl
  refine lv_aload_n hx hb dLW_forget_0 rfl (lv_at hl 2 rfl) ?_
  refine lv_iconst (v := nI 0) hx hb dLW_forget_1 (by decide) ?_
  refine lv_aload_n hx hb dLW_forget_2 rfl (lv_at hl 0 rfl) ?_
  refine lv_iload_n hx hb dLW_forget_3 rfl (lv_at hl 1 rfl) ?_
  refine W.widen (k := 1) (n := 6) (by decide) (by decide) ?_
  refine w_callVi (a := a) (n0 := 19) (w := wC cI cL a) (v := ((dI, dO, dG, dN, dT), (aN, aB), (nS, nP, nR, nG, nO, nU, nT), (tP, tR, tO, tN, tF, tZ), (mP, mN))) (v' := ((dI, dO, dG, dN, dT), ((fDB_forget aN aB nO nU g).2.1, (fDB_forget aN aB nO nU g).2.2.1), (nS, nP, nR, nG, (fDB_forget aN aB nO nU g).2.2.2.1, (fDB_forget aN aB nO nU g).2.2.2.2, nT), (tP, tR, tO, tN, tF, tZ), (mP, mN))) (Y := []) (X := [(a 19, .inl (cL, 1, .inr (.inl fo)))]) (As := [.int (nI g)]) (rest := [.int (nI 0), .ref (a 19)]) ⟨hx, hb, hml, hown, hts⟩ (c_DB_forget l hA1 dI dO dG dN dT aN aB nS nP nR nG nO nU nT tP tR tO tN tF tZ mP mN g hg) (cwV 1 hts (gw_V k478 k479 k480 k27 k481) rfl rfl rfl (by decide +kernel) ⟨Nat.le_of_ble_eq_true rfl, Nat.le_of_ble_eq_true rfl⟩) hK (wC_ad cI cL a _) hP (hA (((dI, dO, dG, dN, dT), (aN, aB), (nS, nP, nR, nG, nO, nU, nT), (tP, tR, tO, tN, tF, tZ), (mP, mN)), fo)) (va_recv (q0 := 0) hK (va_P_left hP) rfl rfl) rfl hl.1 rfl (Nat.le_of_ble_eq_true rfl) dLW_forget_4 ⟨by decide, by decide⟩ (fun q h => by obtain ⟨k, h1, h2⟩ := h; exact ⟨k, by omega, h2⟩) hS (fun H locs hP hS => ?_)
  have hP : va_P D vwCl (wL cI cL a (((dI, dO, dG, dN, dT), ((fDB_forget aN aB nO nU g).2.1, (fDB_forget aN aB nO nU g).2.2.1), (nS, nP, nR, nG, (fDB_forget aN aB nO nU g).2.2.2.1, (fDB_forget aN aB nO nU g).2.2.2.2, nT), (tP, tR, tO, tN, tF, tZ), (mP, mN)), fo)) H := hP
  refine lv_if_eqb hx hb (tgt := 14) dLW_forget_7 (by decide) (fun c1 => ?_) (fun c1 => ?_)
  · refine lv_lconst (v := 0) hx hb dLW_forget_14 (by decide) ?_
    refine ir_last hx hb hK hP (hA (((dI, dO, dG, dN, dT), ((fDB_forget aN aB nO nU g).2.1, (fDB_forget aN aB nO nU g).2.2.1), (nS, nP, nR, nG, (fDB_forget aN aB nO nU g).2.2.2.1, (fDB_forget aN aB nO nU g).2.2.2.2, nT), (tP, tR, tO, tN, tF, tZ), (mP, mN)), fo)) hS 19 1 rfl rfl (k := 0) (by decide) (by decide) dLW_forget_15 (fun H locs hP hS => ?_)
    have hP : va_P D vwCl (wL cI cL a (((dI, dO, dG, dN, dT), ((fDB_forget aN aB nO nU g).2.1, (fDB_forget aN aB nO nU g).2.2.1), (nS, nP, nR, nG, (fDB_forget aN aB nO nU g).2.2.2.1, (fDB_forget aN aB nO nU g).2.2.2.2, nT), (tP, tR, tO, tN, tF, tZ), (mP, mN)), vp_updL fo 0 (0))) H := hP
    refine lv_goto hx hb (tgt := 22) dLW_forget_16 (by decide) ?_
    refine lv_iconst (v := 0) hx hb dLW_forget_22 (by decide) ?_
    exact g_iret (v := (((dI, dO, dG, dN, dT), ((fDB_forget aN aB nO nU g).2.1, (fDB_forget aN aB nO nU g).2.2.1), (nS, nP, nR, nG, (fDB_forget aN aB nO nU g).2.2.2.1, (fDB_forget aN aB nO nU g).2.2.2.2, nT), (tP, tR, tO, tN, tF, tZ), (mP, mN)), vp_updL fo 0 0)) hx hb hr hK hP hS ⟨rfl, by rw [cond_no c1]⟩ hlocks dLW_forget_23
  · refine lv_lconst (v := 1) hx hb dLW_forget_10 (by decide) ?_
    refine lv_goto hx hb (tgt := 15) dLW_forget_11 (by decide) ?_
    refine ir_last hx hb hK hP (hA (((dI, dO, dG, dN, dT), ((fDB_forget aN aB nO nU g).2.1, (fDB_forget aN aB nO nU g).2.2.1), (nS, nP, nR, nG, (fDB_forget aN aB nO nU g).2.2.2.1, (fDB_forget aN aB nO nU g).2.2.2.2, nT), (tP, tR, tO, tN, tF, tZ), (mP, mN)), fo)) hS 19 1 rfl rfl (k := 0) (by decide) (by decide) dLW_forget_15 (fun H locs hP hS => ?_)
    have hP : va_P D vwCl (wL cI cL a (((dI, dO, dG, dN, dT), ((fDB_forget aN aB nO nU g).2.1, (fDB_forget aN aB nO nU g).2.2.1), (nS, nP, nR, nG, (fDB_forget aN aB nO nU g).2.2.2.1, (fDB_forget aN aB nO nU g).2.2.2.2, nT), (tP, tR, tO, tN, tF, tZ), (mP, mN)), vp_updL fo 0 (1))) H := hP
    refine lv_goto hx hb (tgt := 22) dLW_forget_16 (by decide) ?_
    refine lv_iconst (v := 0) hx hb dLW_forget_22 (by decide) ?_
    exact g_iret (v := (((dI, dO, dG, dN, dT), ((fDB_forget aN aB nO nU g).2.1, (fDB_forget aN aB nO nU g).2.2.1), (nS, nP, nR, nG, (fDB_forget aN aB nO nU g).2.2.2.1, (fDB_forget aN aB nO nU g).2.2.2.2, nT), (tP, tR, tO, tN, tF, tZ), (mP, mN)), vp_updL fo 0 1)) hx hb hr hK hP hS ⟨rfl, by rw [cond_yes c1]⟩ hlocks dLW_forget_23
set_option maxHeartbeats 4000000 in
set_option maxRecDepth 100000 in
theorem h_forget_T (l : Launch) (hL : l.stackTraces = false) {D : va_G} {cI cL : ClassId} {a : Nat → Nat} (hIa : aI a 20) (dI : Nat) (dO dG dN dT : Int32) (aN aB : Nat → Int32) (nS nP nR nG : Nat → Int32) (nO nU : Nat → Int64) (nT : Nat → Int32) (tP tR tO tN : Nat → Int32) (tF tZ : Nat) (mP : Nat → Int32) (mN : Int64) (fo : Nat → Int64) (x : Int32) (hb0 : fDB_isRouter x = false) : Met l yLW_forget wsLW_forget ({ frames := 8, cells := 1, slots := 6, locals := 123 }) (va_Pc [.ref (a 0), .int x, .ref (a 19)] (tPre D (tyC cI cL) (wL cI cL a) (((dI, dO, dG, dN, dT), (aN, aB), (nS, nP, nR, nG, nO, nU, nT), (tP, tR, tO, tN, tF, tZ), (mP, mN)), fo))) (va_Qi (fun (r : Int32) (u : LZ) => r = 1 ∧ u = (((dI, dO, dG, dN, dT), (aN, aB), (nS, nP, nR, nG, nO, nU, nT), (tP, tR, tO, tN, tF, tZ), (mP, mN)), fo)) (gG D (tyC cI cL) (wL cI cL a)) (aS a 20)) 1 6 (aS a 20) := by
  have hA : ∀ v : LZ, va_D (aS a 20) (wL cI cL a v) := fun v => dS (wL_ad cI cL a v) hIa
  have hA1 : ∀ v : CS, va_D (aS a 19) (wC cI cL a v) := fun v => dS (wC_ad cI cL a v) (hIa.le (by decide))
  refine w_enter (by decide) rfl (Nat.le_of_ble_eq_true rfl) ?_
  intro p e s m below meth c ls F ht hK hP hT hl
  obtain ⟨hx, hb, hr, hml, hown, hts, hlocks⟩ := id F
  have hS : va_S (aS a 20) s.heap s.heap [] := va_S.rf
  have hl : lv_has ls 4 [(0, .ref (a 0)), (1, .int x), (2, .ref (a 19))] := hl
  refine lv_aload_n hx hb dLW_forget_0 rfl (lv_at hl 2 rfl) ?_
  refine lv_iconst (v := nI 0) hx hb dLW_forget_1 (by decide) ?_
  refine lv_aload_n hx hb dLW_forget_2 rfl (lv_at hl 0 rfl) ?_
  refine lv_iload_n hx hb dLW_forget_3 rfl (lv_at hl 1 rfl) ?_
  refine w_catch1 (t_runV (As := [.int x]) (rest := [.int (nI 0), .ref (a 19)]) ⟨hx, hb, hml, hown, hts⟩ (c_DB_forget_T l hL dI dO dG dN dT aN aB nS nP nR nG nO nU nT tP tR tO tN tF tZ mP mN x hb0) (cwV 1 hts (gw_V k478 k479 k480 k27 k481) rfl rfl rfl (by decide +kernel) ⟨Nat.le_of_ble_eq_true rfl, Nat.le_of_ble_eq_true rfl⟩) ⟨tPre_blind, va_recv (q0 := 0) hK (va_P_left hP) rfl rfl, fun U hU hW => ⟨rfl, ⟨by rw [hU]; exact va_P_left hP, va_K.moved hW.alike hK⟩, hT.moved hW (fun q cell h _ => by rw [hU]; exact h)⟩⟩ rfl rfl hl.1 rfl (lv_room (Nat.le_of_ble_eq_true rfl)) dLW_forget_4 ⟨by decide, by decide⟩) ht hown (by decide) (hts _ k280) (fun H1 x0 hkeep => ?_)
  refine lv_astore_n (lv' := [(3, .ref x0), (0, .ref (a 0)), (1, .int x), (2, .ref (a 19))]) hx hb dLW_forget_19 rfl hl (by decide) rfl (fun ls hl => ?_)
  refine lv_iconst (v := 1) hx hb dLW_forget_20 (by decide) ?_
  exact g_iret (v := (((dI, dO, dG, dN, dT), (aN, aB), (nS, nP, nR, nG, nO, nU, nT), (tP, tR, tO, tN, tF, tZ), (mP, mN)), fo)) hx hb hr hK (keep_P hkeep hP) (keep_S hkeep hS) ⟨rfl, rfl⟩ hlocks dLW_forget_21
set_option maxHeartbeats 4000000 in
set_option maxRecDepth 100000 in
theorem h_run (l : Launch) (hL : l.stackTraces = false) {D : va_G} {cI cL : ClassId} {a : Nat → Nat} (hIa : aI a 20) (dI : Nat) (dO dG dN dT : Int32) (aN aB : Nat → Int32) (nS nP nR nG : Nat → Int32) (nO nU : Nat → Int64) (nT : Nat → Int32) (tP tR tO tN : Nat → Int32) (tF tZ : Nat) (mP : Nat → Int32) (mN : Int64) (fo : Nat → Int64) (x : Int32) (h1 : ¬ x < 1) (h2 : x ≤ 2000) (h3 : x ≤ 1000000 - dT) : Met l yLW_run wsLW_run ({ frames := 4, cells := 1, slots := 6, locals := 88 }) (va_Pc [.ref (a 0), .int x, .ref (a 19)] (tPre D (tyC cI cL) (wL cI cL a) (((dI, dO, dG, dN, dT), (aN, aB), (nS, nP, nR, nG, nO, nU, nT), (tP, tR, tO, tN, tF, tZ), (mP, mN)), fo))) (va_Qi (fun (r : Int32) (u : LZ) => r = 0 ∧ u = (((dI, dO, fDB_run dO dG dT x, dN, dT + x), (aN, aB), ((LNB_dropSilent nG (dT + x) 16 0 nS nO nU).1, nP, nR, nG, (LNB_dropSilent nG (dT + x) 16 0 nS nO nU).2.1, (LNB_dropSilent nG (dT + x) 16 0 nS nO nU).2.2, nT), (tP, tR, tO, tN, tF, tZ), (mP, mN)), vp_updL fo 0 ((dT + x).toInt64))) (gG D (tyC cI cL) (wL cI cL a)) (aS a 20)) 1 6 (aS a 20) := by
  have hA : ∀ v : LZ, va_D (aS a 20) (wL cI cL a v) := fun v => dS (wL_ad cI cL a v) hIa
  have hA1 : ∀ v : CS, va_D (aS a 19) (wC cI cL a v) := fun v => dS (wC_ad cI cL a v) (hIa.le (by decide))
  refine w_enter (by decide) rfl (Nat.le_of_ble_eq_true rfl) ?_
  intro p e s m below meth c ls F ht hK hP hT hl
  obtain ⟨hx, hb, hr, hml, hown, hts, hlocks⟩ := id F
  have hS : va_S (aS a 20) s.heap s.heap [] := va_S.rf
  have hl : lv_has ls 4 [(0, .ref (a 0)), (1, .int x), (2, .ref (a 19))] := hl
  refine lv_aload_n hx hb dLW_run_0 rfl (lv_at hl 2 rfl) ?_
  refine lv_iconst (v := nI 0) hx hb dLW_run_1 (by decide) ?_
  refine lv_aload_n hx hb dLW_run_2 rfl (lv_at hl 0 rfl) ?_
  refine lv_iload_n hx hb dLW_run_3 rfl (lv_at hl 1 rfl) ?_
  refine W.widen (k := 1) (n := 6) (by decide) (by decide) ?_
  refine w_callVi (a := a) (n0 := 19) (w := wC cI cL a) (v := ((dI, dO, dG, dN, dT), (aN, aB), (nS, nP, nR, nG, nO, nU, nT), (tP, tR, tO, tN, tF, tZ), (mP, mN))) (v' := ((dI, dO, fDB_run dO dG dT x, dN, dT + x), (aN, aB), ((LNB_dropSilent nG (dT + x) 16 0 nS nO nU).1, nP, nR, nG, (LNB_dropSilent nG (dT + x) 16 0 nS nO nU).2.1, (LNB_dropSilent nG (dT + x) 16 0 nS nO nU).2.2, nT), (tP, tR, tO, tN, tF, tZ), (mP, mN))) (Y := []) (X := [(a 19, .inl (cL, 1, .inr (.inl fo)))]) (As := [.int x]) (rest := [.int (nI 0), .ref (a 19)]) ⟨hx, hb, hml, hown, hts⟩ (c_DB_run l hA1 dI dO dG dN dT aN aB nS nP nR nG nO nU nT tP tR tO tN tF tZ mP mN x h1 h2 h3) (cwV 1 hts (gw_V k499 k500 k501 k27 k502) rfl rfl rfl (by decide +kernel) ⟨Nat.le_of_ble_eq_true rfl, Nat.le_of_ble_eq_true rfl⟩) hK (wC_ad cI cL a _) hP (hA (((dI, dO, dG, dN, dT), (aN, aB), (nS, nP, nR, nG, nO, nU, nT), (tP, tR, tO, tN, tF, tZ), (mP, mN)), fo)) (va_recv (q0 := 0) hK (va_P_left hP) rfl rfl) rfl hl.1 rfl (Nat.le_of_ble_eq_true rfl) dLW_run_4 ⟨by decide, by decide⟩ (fun q h => by obtain ⟨k, h1, h2⟩ := h; exact ⟨k, by omega, h2⟩) hS (fun H locs hP hS => ?_)
  have hP : va_P D vwCl (wL cI cL a (((dI, dO, fDB_run dO dG dT x, dN, dT + x), (aN, aB), ((LNB_dropSilent nG (dT + x) 16 0 nS nO nU).1, nP, nR, nG, (LNB_dropSilent nG (dT + x) 16 0 nS nO nU).2.1, (LNB_dropSilent nG (dT + x) 16 0 nS nO nU).2.2, nT), (tP, tR, tO, tN, tF, tZ), (mP, mN)), fo)) H := hP
  refine lv_i2l (v := (dT + x).toInt64) hx hb dLW_run_7 rfl ?_
  refine ir_last hx hb hK hP (hA (((dI, dO, fDB_run dO dG dT x, dN, dT + x), (aN, aB), ((LNB_dropSilent nG (dT + x) 16 0 nS nO nU).1, nP, nR, nG, (LNB_dropSilent nG (dT + x) 16 0 nS nO nU).2.1, (LNB_dropSilent nG (dT + x) 16 0 nS nO nU).2.2, nT), (tP, tR, tO, tN, tF, tZ), (mP, mN)), fo)) hS 19 1 rfl rfl (k := 0) (by decide) (by decide) dLW_run_8 (fun H locs hP hS => ?_)
  have hP : va_P D vwCl (wL cI cL a (((dI, dO, fDB_run dO dG dT x, dN, dT + x), (aN, aB), ((LNB_dropSilent nG (dT + x) 16 0 nS nO nU).1, nP, nR, nG, (LNB_dropSilent nG (dT + x) 16 0 nS nO nU).2.1, (LNB_dropSilent nG (dT + x) 16 0 nS nO nU).2.2, nT), (tP, tR, tO, tN, tF, tZ), (mP, mN)), vp_updL fo 0 ((dT + x).toInt64))) H := hP
  refine lv_goto hx hb (tgt := 18) dLW_run_9 (by decide) ?_
  refine lv_iconst (v := 0) hx hb dLW_run_18 (by decide) ?_
  exact g_iret (v := (((dI, dO, fDB_run dO dG dT x, dN, dT + x), (aN, aB), ((LNB_dropSilent nG (dT + x) 16 0 nS nO nU).1, nP, nR, nG, (LNB_dropSilent nG (dT + x) 16 0 nS nO nU).2.1, (LNB_dropSilent nG (dT + x) 16 0 nS nO nU).2.2, nT), (tP, tR, tO, tN, tF, tZ), (mP, mN)), vp_updL fo 0 ((dT + x).toInt64))) hx hb hr hK hP hS ⟨rfl, rfl⟩ hlocks dLW_run_19
set_option maxHeartbeats 4000000 in
set_option maxRecDepth 100000 in
theorem h_run_T1 (l : Launch) (hL : l.stackTraces = false) {D : va_G} {cI cL : ClassId} {a : Nat → Nat} (hIa : aI a 20) (dI : Nat) (dO dG dN dT : Int32) (aN aB : Nat → Int32) (nS nP nR nG : Nat → Int32) (nO nU : Nat → Int64) (nT : Nat → Int32) (tP tR tO tN : Nat → Int32) (tF tZ : Nat) (mP : Nat → Int32) (mN : Int64) (fo : Nat → Int64) (x : Int32) (hb0 : fDB_isTick x = false) : Met l yLW_run wsLW_run ({ frames := 7, cells := 1, slots := 6, locals := 104 }) (va_Pc [.ref (a 0), .int x, .ref (a 19)] (tPre D (tyC cI cL) (wL cI cL a) (((dI, dO, dG, dN, dT), (aN, aB), (nS, nP, nR, nG, nO, nU, nT), (tP, tR, tO, tN, tF, tZ), (mP, mN)), fo))) (va_Qi (fun (r : Int32) (u : LZ) => r = 1 ∧ u = (((dI, dO, dG, dN, dT), (aN, aB), (nS, nP, nR, nG, nO, nU, nT), (tP, tR, tO, tN, tF, tZ), (mP, mN)), fo)) (gG D (tyC cI cL) (wL cI cL a)) (aS a 20)) 1 6 (aS a 20) := by
  have hA : ∀ v : LZ, va_D (aS a 20) (wL cI cL a v) := fun v => dS (wL_ad cI cL a v) hIa
  have hA1 : ∀ v : CS, va_D (aS a 19) (wC cI cL a v) := fun v => dS (wC_ad cI cL a v) (hIa.le (by decide))
  refine w_enter (by decide) rfl (Nat.le_of_ble_eq_true rfl) ?_
  intro p e s m below meth c ls F ht hK hP hT hl
  obtain ⟨hx, hb, hr, hml, hown, hts, hlocks⟩ := id F
  have hS : va_S (aS a 20) s.heap s.heap [] := va_S.rf
  have hl : lv_has ls 4 [(0, .ref (a 0)), (1, .int x), (2, .ref (a 19))] := hl
  refine lv_aload_n hx hb dLW_run_0 rfl (lv_at hl 2 rfl) ?_
  refine lv_iconst (v := nI 0) hx hb dLW_run_1 (by decide) ?_
  refine lv_aload_n hx hb dLW_run_2 rfl (lv_at hl 0 rfl) ?_
  refine lv_iload_n hx hb dLW_run_3 rfl (lv_at hl 1 rfl) ?_
  refine w_catch1 (t_runV (As := [.int x]) (rest := [.int (nI 0), .ref (a 19)]) ⟨hx, hb, hml, hown, hts⟩ (c_DB_run_T1 l hL dI dO dG dN dT aN aB nS nP nR nG nO nU nT tP tR tO tN tF tZ mP mN x hb0) (cwV 1 hts (gw_V k499 k500 k501 k27 k502) rfl rfl rfl (by decide +kernel) ⟨Nat.le_of_ble_eq_true rfl, Nat.le_of_ble_eq_true rfl⟩) ⟨tPre_blind, va_recv (q0 := 0) hK (va_P_left hP) rfl rfl, fun U hU hW => ⟨rfl, ⟨by rw [hU]; exact va_P_left hP, va_K.moved hW.alike hK⟩, hT.moved hW (fun q cell h _ => by rw [hU]; exact h)⟩⟩ rfl rfl hl.1 rfl (lv_room (Nat.le_of_ble_eq_true rfl)) dLW_run_4 ⟨by decide, by decide⟩) ht hown (by decide) (hts _ k280) (fun H1 x0 hkeep => ?_)
  refine lv_astore_n (lv' := [(3, .ref x0), (0, .ref (a 0)), (1, .int x), (2, .ref (a 19))]) hx hb dLW_run_12 rfl hl (by decide) rfl (fun ls hl => ?_)
  refine lv_iconst (v := 1) hx hb dLW_run_13 (by decide) ?_
  exact g_iret (v := (((dI, dO, dG, dN, dT), (aN, aB), (nS, nP, nR, nG, nO, nU, nT), (tP, tR, tO, tN, tF, tZ), (mP, mN)), fo)) hx hb hr hK (keep_P hkeep hP) (keep_S hkeep hS) ⟨rfl, rfl⟩ hlocks dLW_run_14
set_option maxHeartbeats 4000000 in
set_option maxRecDepth 100000 in
theorem h_run_T2 (l : Launch) (hL : l.stackTraces = false) {D : va_G} {cI cL : ClassId} {a : Nat → Nat} (hIa : aI a 20) (dI : Nat) (dO dG dN dT : Int32) (aN aB : Nat → Int32) (nS nP nR nG : Nat → Int32) (nO nU : Nat → Int64) (nT : Nat → Int32) (tP tR tO tN : Nat → Int32) (tF tZ : Nat) (mP : Nat → Int32) (mN : Int64) (fo : Nat → Int64) (x : Int32) (h1 : ¬ x < 1) (h2 : x ≤ 2000) (h3 : ¬ x ≤ 1000000 - dT) : Met l yLW_run wsLW_run ({ frames := 7, cells := 1, slots := 6, locals := 104 }) (va_Pc [.ref (a 0), .int x, .ref (a 19)] (tPre D (tyC cI cL) (wL cI cL a) (((dI, dO, dG, dN, dT), (aN, aB), (nS, nP, nR, nG, nO, nU, nT), (tP, tR, tO, tN, tF, tZ), (mP, mN)), fo))) (va_Qi (fun (r : Int32) (u : LZ) => r = 2 ∧ u = (((dI, dO, dG, dN, dT), (aN, aB), (nS, nP, nR, nG, nO, nU, nT), (tP, tR, tO, tN, tF, tZ), (mP, mN)), fo)) (gG D (tyC cI cL) (wL cI cL a)) (aS a 20)) 1 6 (aS a 20) := by
  have hA : ∀ v : LZ, va_D (aS a 20) (wL cI cL a v) := fun v => dS (wL_ad cI cL a v) hIa
  have hA1 : ∀ v : CS, va_D (aS a 19) (wC cI cL a v) := fun v => dS (wC_ad cI cL a v) (hIa.le (by decide))
  refine w_enter (by decide) rfl (Nat.le_of_ble_eq_true rfl) ?_
  intro p e s m below meth c ls F ht hK hP hT hl
  obtain ⟨hx, hb, hr, hml, hown, hts, hlocks⟩ := id F
  have hS : va_S (aS a 20) s.heap s.heap [] := va_S.rf
  have hl : lv_has ls 4 [(0, .ref (a 0)), (1, .int x), (2, .ref (a 19))] := hl
  refine lv_aload_n hx hb dLW_run_0 rfl (lv_at hl 2 rfl) ?_
  refine lv_iconst (v := nI 0) hx hb dLW_run_1 (by decide) ?_
  refine lv_aload_n hx hb dLW_run_2 rfl (lv_at hl 0 rfl) ?_
  refine lv_iload_n hx hb dLW_run_3 rfl (lv_at hl 1 rfl) ?_
  refine w_catch2 (t_runV (As := [.int x]) (rest := [.int (nI 0), .ref (a 19)]) ⟨hx, hb, hml, hown, hts⟩ (c_DB_run_T2 l hL dI dO dG dN dT aN aB nS nP nR nG nO nU nT tP tR tO tN tF tZ mP mN x h1 h2 h3) (cwV 1 hts (gw_V k499 k500 k501 k27 k502) rfl rfl rfl (by decide +kernel) ⟨Nat.le_of_ble_eq_true rfl, Nat.le_of_ble_eq_true rfl⟩) ⟨tPre_blind, va_recv (q0 := 0) hK (va_P_left hP) rfl rfl, fun U hU hW => ⟨rfl, ⟨by rw [hU]; exact va_P_left hP, va_K.moved hW.alike hK⟩, hT.moved hW (fun q cell h _ => by rw [hU]; exact h)⟩⟩ rfl rfl hl.1 rfl (lv_room (Nat.le_of_ble_eq_true rfl)) dLW_run_4 ⟨by decide, by decide⟩) ht hown (by decide) (by decide) (hts _ k280) hT.2.2.2.2 (hts _ k374) (fun H1 x0 hkeep => ?_)
  refine lv_astore_n (lv' := [(3, .ref x0), (0, .ref (a 0)), (1, .int x), (2, .ref (a 19))]) hx hb dLW_run_15 rfl hl (by decide) rfl (fun ls hl => ?_)
  refine lv_iconst (v := 2) hx hb dLW_run_16 (by decide) ?_
  exact g_iret (v := (((dI, dO, dG, dN, dT), (aN, aB), (nS, nP, nR, nG, nO, nU, nT), (tP, tR, tO, tN, tF, tZ), (mP, mN)), fo)) hx hb hr hK (keep_P hkeep hP) (keep_S hkeep hS) ⟨rfl, rfl⟩ hlocks dLW_run_17
set_option maxHeartbeats 4000000 in
set_option maxRecDepth 100000 in
theorem h_message (l : Launch) (hL : l.stackTraces = false) {D : va_G} {cI cL : ClassId} {a : Nat → Nat} (hIa : aI a 20) (dI : Nat) (dO dG dN dT : Int32) (aN aB : Nat → Int32) (nS nP nR nG : Nat → Int32) (nO nU : Nat → Int64) (nT : Nat → Int32) (tP tR tO tN : Nat → Int32) (tF tZ : Nat) (mP : Nat → Int32) (mN : Int64) (fo : Nat → Int64) (i : Nat) (hi : i < 6) (hm : fMS_isMade mP = true) : Met l yLW_message wsLW_message ({ frames := 2, cells := 1, slots := 6, locals := 42 }) (va_Pc [.ref (a 0), .int (nI i), .ref (a 19)] (tPre D (tyC cI cL) (wL cI cL a) (((dI, dO, dG, dN, dT), (aN, aB), (nS, nP, nR, nG, nO, nU, nT), (tP, tR, tO, tN, tF, tZ), (mP, mN)), fo))) (va_Qi (fun (r : Int32) (u : LZ) => r = 0 ∧ u = (((dI, dO, dG, dN, dT), (aN, aB), (nS, nP, nR, nG, nO, nU, nT), (tP, tR, tO, tN, tF, tZ), (mP, mN)), vp_updL fo 0 ((mP i).toInt64))) (gG D (tyC cI cL) (wL cI cL a)) (aS a 20)) 1 6 (aS a 20) := by
  have hA : ∀ v : LZ, va_D (aS a 20) (wL cI cL a v) := fun v => dS (wL_ad cI cL a v) hIa
  have hA1 : ∀ v : CS, va_D (aS a 19) (wC cI cL a v) := fun v => dS (wC_ad cI cL a v) (hIa.le (by decide))
  refine w_enter (by decide) rfl (Nat.le_of_ble_eq_true rfl) ?_
  intro p e s m below meth c ls F ht hK hP hT hl
  obtain ⟨hx, hb, hr, hml, hown, hts, hlocks⟩ := id F
  have hS : va_S (aS a 20) s.heap s.heap [] := va_S.rf
  have hl : lv_has ls 4 [(0, .ref (a 0)), (1, .int (nI i)), (2, .ref (a 19))] := hl
  refine lv_aload_n hx hb dLW_message_0 rfl (lv_at hl 2 rfl) ?_
  refine lv_iconst (v := nI 0) hx hb dLW_message_1 (by decide) ?_
  refine lv_aload_n hx hb dLW_message_2 rfl (lv_at hl 0 rfl) ?_
  refine lv_iload_n hx hb dLW_message_3 rfl (lv_at hl 1 rfl) ?_
  refine W.widen (k := 1) (n := 6) (by decide) (by decide) ?_
  refine g_roVi (w := wC cI cL a) (v := ((dI, dO, dG, dN, dT), (aN, aB), (nS, nP, nR, nG, nO, nU, nT), (tP, tR, tO, tN, tF, tZ), (mP, mN))) (As := [.int (nI i)]) (rest := [.int (nI 0), .ref (a 19)]) ⟨hx, hb, hml, hown, hts⟩ (c_DB_message l dI dO dG dN dT aN aB nS nP nR nG nO nU nT tP tR tO tN tF tZ mP mN i hi hm) (cwV 1 hts (gw_V k513 k514 k515 k27 k516) rfl rfl rfl (by decide +kernel) ⟨Nat.le_of_ble_eq_true rfl, Nat.le_of_ble_eq_true rfl⟩) hK (va_P_left hP) (va_recv (q0 := 0) hK (va_P_left hP) rfl rfl) rfl hl.1 rfl (Nat.le_of_ble_eq_true rfl) dLW_message_4 ⟨by decide, by decide⟩ ?_
  have hP : va_P D vwCl (wL cI cL a (((dI, dO, dG, dN, dT), (aN, aB), (nS, nP, nR, nG, nO, nU, nT), (tP, tR, tO, tN, tF, tZ), (mP, mN)), fo)) s.heap := hP
  refine lv_i2l (v := (mP i).toInt64) hx hb dLW_message_7 rfl ?_
  refine ir_last hx hb hK hP (hA (((dI, dO, dG, dN, dT), (aN, aB), (nS, nP, nR, nG, nO, nU, nT), (tP, tR, tO, tN, tF, tZ), (mP, mN)), fo)) hS 19 1 rfl rfl (k := 0) (by decide) (by decide) dLW_message_8 (fun H locs hP hS => ?_)
  have hP : va_P D vwCl (wL cI cL a (((dI, dO, dG, dN, dT), (aN, aB), (nS, nP, nR, nG, nO, nU, nT), (tP, tR, tO, tN, tF, tZ), (mP, mN)), vp_updL fo 0 ((mP i).toInt64))) H := hP
  refine lv_goto hx hb (tgt := 18) dLW_message_9 (by decide) ?_
  refine lv_iconst (v := 0) hx hb dLW_message_18 (by decide) ?_
  exact g_iret (v := (((dI, dO, dG, dN, dT), (aN, aB), (nS, nP, nR, nG, nO, nU, nT), (tP, tR, tO, tN, tF, tZ), (mP, mN)), vp_updL fo 0 ((mP i).toInt64))) hx hb hr hK hP hS ⟨rfl, rfl⟩ hlocks dLW_message_19
set_option maxHeartbeats 4000000 in
set_option maxRecDepth 100000 in
theorem h_message_T1 (l : Launch) (hL : l.stackTraces = false) {D : va_G} {cI cL : ClassId} {a : Nat → Nat} (hIa : aI a 20) (dI : Nat) (dO dG dN dT : Int32) (aN aB : Nat → Int32) (nS nP nR nG : Nat → Int32) (nO nU : Nat → Int64) (nT : Nat → Int32) (tP tR tO tN : Nat → Int32) (tF tZ : Nat) (mP : Nat → Int32) (mN : Int64) (fo : Nat → Int64) (x : Int32) (hb0 : fDB_isPart x = false) : Met l yLW_message wsLW_message ({ frames := 7, cells := 1, slots := 6, locals := 103 }) (va_Pc [.ref (a 0), .int x, .ref (a 19)] (tPre D (tyC cI cL) (wL cI cL a) (((dI, dO, dG, dN, dT), (aN, aB), (nS, nP, nR, nG, nO, nU, nT), (tP, tR, tO, tN, tF, tZ), (mP, mN)), fo))) (va_Qi (fun (r : Int32) (u : LZ) => r = 1 ∧ u = (((dI, dO, dG, dN, dT), (aN, aB), (nS, nP, nR, nG, nO, nU, nT), (tP, tR, tO, tN, tF, tZ), (mP, mN)), fo)) (gG D (tyC cI cL) (wL cI cL a)) (aS a 20)) 1 6 (aS a 20) := by
  have hA : ∀ v : LZ, va_D (aS a 20) (wL cI cL a v) := fun v => dS (wL_ad cI cL a v) hIa
  have hA1 : ∀ v : CS, va_D (aS a 19) (wC cI cL a v) := fun v => dS (wC_ad cI cL a v) (hIa.le (by decide))
  refine w_enter (by decide) rfl (Nat.le_of_ble_eq_true rfl) ?_
  intro p e s m below meth c ls F ht hK hP hT hl
  obtain ⟨hx, hb, hr, hml, hown, hts, hlocks⟩ := id F
  have hS : va_S (aS a 20) s.heap s.heap [] := va_S.rf
  have hl : lv_has ls 4 [(0, .ref (a 0)), (1, .int x), (2, .ref (a 19))] := hl
  refine lv_aload_n hx hb dLW_message_0 rfl (lv_at hl 2 rfl) ?_
  refine lv_iconst (v := nI 0) hx hb dLW_message_1 (by decide) ?_
  refine lv_aload_n hx hb dLW_message_2 rfl (lv_at hl 0 rfl) ?_
  refine lv_iload_n hx hb dLW_message_3 rfl (lv_at hl 1 rfl) ?_
  refine w_catch1 (t_runV (As := [.int x]) (rest := [.int (nI 0), .ref (a 19)]) ⟨hx, hb, hml, hown, hts⟩ (c_DB_message_T1 l hL dI dO dG dN dT aN aB nS nP nR nG nO nU nT tP tR tO tN tF tZ mP mN x hb0) (cwV 1 hts (gw_V k513 k514 k515 k27 k516) rfl rfl rfl (by decide +kernel) ⟨Nat.le_of_ble_eq_true rfl, Nat.le_of_ble_eq_true rfl⟩) ⟨tPre_blind, va_recv (q0 := 0) hK (va_P_left hP) rfl rfl, fun U hU hW => ⟨rfl, ⟨by rw [hU]; exact va_P_left hP, va_K.moved hW.alike hK⟩, hT.moved hW (fun q cell h _ => by rw [hU]; exact h)⟩⟩ rfl rfl hl.1 rfl (lv_room (Nat.le_of_ble_eq_true rfl)) dLW_message_4 ⟨by decide, by decide⟩) ht hown (by decide) (hts _ k280) (fun H1 x0 hkeep => ?_)
  refine lv_astore_n (lv' := [(3, .ref x0), (0, .ref (a 0)), (1, .int x), (2, .ref (a 19))]) hx hb dLW_message_12 rfl hl (by decide) rfl (fun ls hl => ?_)
  refine lv_iconst (v := 1) hx hb dLW_message_13 (by decide) ?_
  exact g_iret (v := (((dI, dO, dG, dN, dT), (aN, aB), (nS, nP, nR, nG, nO, nU, nT), (tP, tR, tO, tN, tF, tZ), (mP, mN)), fo)) hx hb hr hK (keep_P hkeep hP) (keep_S hkeep hS) ⟨rfl, rfl⟩ hlocks dLW_message_14
set_option maxHeartbeats 4000000 in
set_option maxRecDepth 100000 in
theorem h_message_T2 (l : Launch) (hL : l.stackTraces = false) {D : va_G} {cI cL : ClassId} {a : Nat → Nat} (hIa : aI a 20) (dI : Nat) (dO dG dN dT : Int32) (aN aB : Nat → Int32) (nS nP nR nG : Nat → Int32) (nO nU : Nat → Int64) (nT : Nat → Int32) (tP tR tO tN : Nat → Int32) (tF tZ : Nat) (mP : Nat → Int32) (mN : Int64) (fo : Nat → Int64) (i : Nat) (hi : i < 6) (hm : fMS_isMade mP = false) : Met l yLW_message wsLW_message ({ frames := 7, cells := 1, slots := 6, locals := 103 }) (va_Pc [.ref (a 0), .int (nI i), .ref (a 19)] (tPre D (tyC cI cL) (wL cI cL a) (((dI, dO, dG, dN, dT), (aN, aB), (nS, nP, nR, nG, nO, nU, nT), (tP, tR, tO, tN, tF, tZ), (mP, mN)), fo))) (va_Qi (fun (r : Int32) (u : LZ) => r = 2 ∧ u = (((dI, dO, dG, dN, dT), (aN, aB), (nS, nP, nR, nG, nO, nU, nT), (tP, tR, tO, tN, tF, tZ), (mP, mN)), fo)) (gG D (tyC cI cL) (wL cI cL a)) (aS a 20)) 1 6 (aS a 20) := by
  have hA : ∀ v : LZ, va_D (aS a 20) (wL cI cL a v) := fun v => dS (wL_ad cI cL a v) hIa
  have hA1 : ∀ v : CS, va_D (aS a 19) (wC cI cL a v) := fun v => dS (wC_ad cI cL a v) (hIa.le (by decide))
  refine w_enter (by decide) rfl (Nat.le_of_ble_eq_true rfl) ?_
  intro p e s m below meth c ls F ht hK hP hT hl
  obtain ⟨hx, hb, hr, hml, hown, hts, hlocks⟩ := id F
  have hS : va_S (aS a 20) s.heap s.heap [] := va_S.rf
  have hl : lv_has ls 4 [(0, .ref (a 0)), (1, .int (nI i)), (2, .ref (a 19))] := hl
  refine lv_aload_n hx hb dLW_message_0 rfl (lv_at hl 2 rfl) ?_
  refine lv_iconst (v := nI 0) hx hb dLW_message_1 (by decide) ?_
  refine lv_aload_n hx hb dLW_message_2 rfl (lv_at hl 0 rfl) ?_
  refine lv_iload_n hx hb dLW_message_3 rfl (lv_at hl 1 rfl) ?_
  refine w_catch2 (t_runV (As := [.int (nI i)]) (rest := [.int (nI 0), .ref (a 19)]) ⟨hx, hb, hml, hown, hts⟩ (c_DB_message_T2 l hL dI dO dG dN dT aN aB nS nP nR nG nO nU nT tP tR tO tN tF tZ mP mN i hi hm) (cwV 1 hts (gw_V k513 k514 k515 k27 k516) rfl rfl rfl (by decide +kernel) ⟨Nat.le_of_ble_eq_true rfl, Nat.le_of_ble_eq_true rfl⟩) ⟨tPre_blind, va_recv (q0 := 0) hK (va_P_left hP) rfl rfl, fun U hU hW => ⟨rfl, ⟨by rw [hU]; exact va_P_left hP, va_K.moved hW.alike hK⟩, hT.moved hW (fun q cell h _ => by rw [hU]; exact h)⟩⟩ rfl rfl hl.1 rfl (lv_room (Nat.le_of_ble_eq_true rfl)) dLW_message_4 ⟨by decide, by decide⟩) ht hown (by decide) (by decide) (hts _ k280) hT.2.2.2.2 (hts _ k374) (fun H1 x0 hkeep => ?_)
  refine lv_astore_n (lv' := [(3, .ref x0), (0, .ref (a 0)), (1, .int (nI i)), (2, .ref (a 19))]) hx hb dLW_message_15 rfl hl (by decide) rfl (fun ls hl => ?_)
  refine lv_iconst (v := 2) hx hb dLW_message_16 (by decide) ?_
  exact g_iret (v := (((dI, dO, dG, dN, dT), (aN, aB), (nS, nP, nR, nG, nO, nU, nT), (tP, tR, tO, tN, tF, tZ), (mP, mN)), fo)) hx hb hr hK (keep_P hkeep hP) (keep_S hkeep hS) ⟨rfl, rfl⟩ hlocks dLW_message_17
set_option maxHeartbeats 4000000 in
set_option maxRecDepth 100000 in
theorem h_state (l : Launch) (hL : l.stackTraces = false) {D : va_G} {cI cL : ClassId} {a : Nat → Nat} (hIa : aI a 20) (dI : Nat) (dO dG dN dT : Int32) (aN aB : Nat → Int32) (nS nP nR nG : Nat → Int32) (nO nU : Nat → Int64) (nT : Nat → Int32) (tP tR tO tN : Nat → Int32) (tF tZ : Nat) (mP : Nat → Int32) (mN : Int64) (fo : Nat → Int64) (q : Nat) (o : Nat) (hq : q < 8) (ho : o < 64) : Met l yLW_state wsLW_state ({ frames := 3, cells := 1, slots := 6, locals := 68 }) (va_Pc [.ref (a 0), .int (nI q), .int (nI o), .ref (a 19)] (tPre D (tyC cI cL) (wL cI cL a) (((dI, dO, dG, dN, dT), (aN, aB), (nS, nP, nR, nG, nO, nU, nT), (tP, tR, tO, tN, tF, tZ), (mP, mN)), fo))) (va_Qi (fun (r : Int32) (u : LZ) => r = 0 ∧ u = (((dI, dO, dG, dN, dT), (aN, aB), (nS, nP, nR, nG, nO, nU, nT), (tP, tR, tO, tN, tF, tZ), (mP, mN)), vp_updL fo 0 ((fNB_standingOf nS nP nR (nI q) (nI o)).toInt64))) (gG D (tyC cI cL) (wL cI cL a)) (aS a 20)) 1 6 (aS a 20) := by
  have hA : ∀ v : LZ, va_D (aS a 20) (wL cI cL a v) := fun v => dS (wL_ad cI cL a v) hIa
  have hA1 : ∀ v : CS, va_D (aS a 19) (wC cI cL a v) := fun v => dS (wC_ad cI cL a v) (hIa.le (by decide))
  refine w_enter (by decide) rfl (Nat.le_of_ble_eq_true rfl) ?_
  intro p e s m below meth c ls F ht hK hP hT hl
  obtain ⟨hx, hb, hr, hml, hown, hts, hlocks⟩ := id F
  have hS : va_S (aS a 20) s.heap s.heap [] := va_S.rf
  have hl : lv_has ls 5 [(0, .ref (a 0)), (1, .int (nI q)), (2, .int (nI o)), (3, .ref (a 19))] := hl
  refine lv_aload_n hx hb dLW_state_0 rfl (lv_at hl 3 rfl) ?_
  refine lv_iconst (v := nI 0) hx hb dLW_state_1 (by decide) ?_
  refine lv_aload_n hx hb dLW_state_2 rfl (lv_at hl 0 rfl) ?_
  refine lv_iload_n hx hb dLW_state_3 rfl (lv_at hl 1 rfl) ?_
  refine lv_iload_n hx hb dLW_state_4 rfl (lv_at hl 2 rfl) ?_
  refine W.widen (k := 1) (n := 6) (by decide) (by decide) ?_
  refine g_roVi (w := wC cI cL a) (v := ((dI, dO, dG, dN, dT), (aN, aB), (nS, nP, nR, nG, nO, nU, nT), (tP, tR, tO, tN, tF, tZ), (mP, mN))) (As := [.int (nI q), .int (nI o)]) (rest := [.int (nI 0), .ref (a 19)]) ⟨hx, hb, hml, hown, hts⟩ (c_DB_state l dI dO dG dN dT aN aB nS nP nR nG nO nU nT tP tR tO tN tF tZ mP mN q o hq ho) (cwV 2 hts (gw_V k530 k531 k532 k27 k533) rfl rfl rfl (by decide +kernel) ⟨Nat.le_of_ble_eq_true rfl, Nat.le_of_ble_eq_true rfl⟩) hK (va_P_left hP) (va_recv (q0 := 0) hK (va_P_left hP) rfl rfl) rfl hl.1 rfl (Nat.le_of_ble_eq_true rfl) dLW_state_5 ⟨by decide, by decide⟩ ?_
  have hP : va_P D vwCl (wL cI cL a (((dI, dO, dG, dN, dT), (aN, aB), (nS, nP, nR, nG, nO, nU, nT), (tP, tR, tO, tN, tF, tZ), (mP, mN)), fo)) s.heap := hP
  refine lv_i2l (v := (fNB_standingOf nS nP nR (nI q) (nI o)).toInt64) hx hb dLW_state_8 rfl ?_
  refine ir_last hx hb hK hP (hA (((dI, dO, dG, dN, dT), (aN, aB), (nS, nP, nR, nG, nO, nU, nT), (tP, tR, tO, tN, tF, tZ), (mP, mN)), fo)) hS 19 1 rfl rfl (k := 0) (by decide) (by decide) dLW_state_9 (fun H locs hP hS => ?_)
  have hP : va_P D vwCl (wL cI cL a (((dI, dO, dG, dN, dT), (aN, aB), (nS, nP, nR, nG, nO, nU, nT), (tP, tR, tO, tN, tF, tZ), (mP, mN)), vp_updL fo 0 ((fNB_standingOf nS nP nR (nI q) (nI o)).toInt64))) H := hP
  refine lv_goto hx hb (tgt := 17) dLW_state_10 (by decide) ?_
  refine lv_iconst (v := 0) hx hb dLW_state_17 (by decide) ?_
  exact g_iret (v := (((dI, dO, dG, dN, dT), (aN, aB), (nS, nP, nR, nG, nO, nU, nT), (tP, tR, tO, tN, tF, tZ), (mP, mN)), vp_updL fo 0 ((fNB_standingOf nS nP nR (nI q) (nI o)).toInt64))) hx hb hr hK hP hS ⟨rfl, rfl⟩ hlocks dLW_state_18
set_option maxHeartbeats 4000000 in
set_option maxRecDepth 100000 in
theorem h_state_T1 (l : Launch) (hL : l.stackTraces = false) {D : va_G} {cI cL : ClassId} {a : Nat → Nat} (hIa : aI a 20) (dI : Nat) (dO dG dN dT : Int32) (aN aB : Nat → Int32) (nS nP nR nG : Nat → Int32) (nO nU : Nat → Int64) (nT : Nat → Int32) (tP tR tO tN : Nat → Int32) (tF tZ : Nat) (mP : Nat → Int32) (mN : Int64) (fo : Nat → Int64) (x : Int32) (y : Int32) (hb0 : fDB_isPort x = false) : Met l yLW_state wsLW_state ({ frames := 8, cells := 1, slots := 6, locals := 124 }) (va_Pc [.ref (a 0), .int x, .int y, .ref (a 19)] (tPre D (tyC cI cL) (wL cI cL a) (((dI, dO, dG, dN, dT), (aN, aB), (nS, nP, nR, nG, nO, nU, nT), (tP, tR, tO, tN, tF, tZ), (mP, mN)), fo))) (va_Qi (fun (r : Int32) (u : LZ) => r = 1 ∧ u = (((dI, dO, dG, dN, dT), (aN, aB), (nS, nP, nR, nG, nO, nU, nT), (tP, tR, tO, tN, tF, tZ), (mP, mN)), fo)) (gG D (tyC cI cL) (wL cI cL a)) (aS a 20)) 1 6 (aS a 20) := by
  have hA : ∀ v : LZ, va_D (aS a 20) (wL cI cL a v) := fun v => dS (wL_ad cI cL a v) hIa
  have hA1 : ∀ v : CS, va_D (aS a 19) (wC cI cL a v) := fun v => dS (wC_ad cI cL a v) (hIa.le (by decide))
  refine w_enter (by decide) rfl (Nat.le_of_ble_eq_true rfl) ?_
  intro p e s m below meth c ls F ht hK hP hT hl
  obtain ⟨hx, hb, hr, hml, hown, hts, hlocks⟩ := id F
  have hS : va_S (aS a 20) s.heap s.heap [] := va_S.rf
  have hl : lv_has ls 5 [(0, .ref (a 0)), (1, .int x), (2, .int y), (3, .ref (a 19))] := hl
  refine lv_aload_n hx hb dLW_state_0 rfl (lv_at hl 3 rfl) ?_
  refine lv_iconst (v := nI 0) hx hb dLW_state_1 (by decide) ?_
  refine lv_aload_n hx hb dLW_state_2 rfl (lv_at hl 0 rfl) ?_
  refine lv_iload_n hx hb dLW_state_3 rfl (lv_at hl 1 rfl) ?_
  refine lv_iload_n hx hb dLW_state_4 rfl (lv_at hl 2 rfl) ?_
  refine w_catch1 (t_runV (As := [.int x, .int y]) (rest := [.int (nI 0), .ref (a 19)]) ⟨hx, hb, hml, hown, hts⟩ (c_DB_state_T1 l hL dI dO dG dN dT aN aB nS nP nR nG nO nU nT tP tR tO tN tF tZ mP mN x y hb0) (cwV 2 hts (gw_V k530 k531 k532 k27 k533) rfl rfl rfl (by decide +kernel) ⟨Nat.le_of_ble_eq_true rfl, Nat.le_of_ble_eq_true rfl⟩) ⟨tPre_blind, va_recv (q0 := 0) hK (va_P_left hP) rfl rfl, fun U hU hW => ⟨rfl, ⟨by rw [hU]; exact va_P_left hP, va_K.moved hW.alike hK⟩, hT.moved hW (fun q cell h _ => by rw [hU]; exact h)⟩⟩ rfl rfl hl.1 rfl (lv_room (Nat.le_of_ble_eq_true rfl)) dLW_state_5 ⟨by decide, by decide⟩) ht hown (by decide) (hts _ k280) (fun H1 x0 hkeep => ?_)
  refine lv_astore (lv' := [(4, .ref x0), (0, .ref (a 0)), (1, .int x), (2, .int y), (3, .ref (a 19))]) hx hb dLW_state_13 hl (by decide) rfl (fun ls hl => ?_)
  refine lv_iconst (v := 1) hx hb dLW_state_15 (by decide) ?_
  exact g_iret (v := (((dI, dO, dG, dN, dT), (aN, aB), (nS, nP, nR, nG, nO, nU, nT), (tP, tR, tO, tN, tF, tZ), (mP, mN)), fo)) hx hb hr hK (keep_P hkeep hP) (keep_S hkeep hS) ⟨rfl, rfl⟩ hlocks dLW_state_16
set_option maxHeartbeats 4000000 in
set_option maxRecDepth 100000 in
theorem h_state_T2 (l : Launch) (hL : l.stackTraces = false) {D : va_G} {cI cL : ClassId} {a : Nat → Nat} (hIa : aI a 20) (dI : Nat) (dO dG dN dT : Int32) (aN aB : Nat → Int32) (nS nP nR nG : Nat → Int32) (nO nU : Nat → Int64) (nT : Nat → Int32) (tP tR tO tN : Nat → Int32) (tF tZ : Nat) (mP : Nat → Int32) (mN : Int64) (fo : Nat → Int64) (q : Nat) (x : Int32) (hq : q < 8) (hb0 : fDB_isRouter x = false) : Met l yLW_state wsLW_state ({ frames := 8, cells := 1, slots := 6, locals := 124 }) (va_Pc [.ref (a 0), .int (nI q), .int x, .ref (a 19)] (tPre D (tyC cI cL) (wL cI cL a) (((dI, dO, dG, dN, dT), (aN, aB), (nS, nP, nR, nG, nO, nU, nT), (tP, tR, tO, tN, tF, tZ), (mP, mN)), fo))) (va_Qi (fun (r : Int32) (u : LZ) => r = 1 ∧ u = (((dI, dO, dG, dN, dT), (aN, aB), (nS, nP, nR, nG, nO, nU, nT), (tP, tR, tO, tN, tF, tZ), (mP, mN)), fo)) (gG D (tyC cI cL) (wL cI cL a)) (aS a 20)) 1 6 (aS a 20) := by
  have hA : ∀ v : LZ, va_D (aS a 20) (wL cI cL a v) := fun v => dS (wL_ad cI cL a v) hIa
  have hA1 : ∀ v : CS, va_D (aS a 19) (wC cI cL a v) := fun v => dS (wC_ad cI cL a v) (hIa.le (by decide))
  refine w_enter (by decide) rfl (Nat.le_of_ble_eq_true rfl) ?_
  intro p e s m below meth c ls F ht hK hP hT hl
  obtain ⟨hx, hb, hr, hml, hown, hts, hlocks⟩ := id F
  have hS : va_S (aS a 20) s.heap s.heap [] := va_S.rf
  have hl : lv_has ls 5 [(0, .ref (a 0)), (1, .int (nI q)), (2, .int x), (3, .ref (a 19))] := hl
  refine lv_aload_n hx hb dLW_state_0 rfl (lv_at hl 3 rfl) ?_
  refine lv_iconst (v := nI 0) hx hb dLW_state_1 (by decide) ?_
  refine lv_aload_n hx hb dLW_state_2 rfl (lv_at hl 0 rfl) ?_
  refine lv_iload_n hx hb dLW_state_3 rfl (lv_at hl 1 rfl) ?_
  refine lv_iload_n hx hb dLW_state_4 rfl (lv_at hl 2 rfl) ?_
  refine w_catch1 (t_runV (As := [.int (nI q), .int x]) (rest := [.int (nI 0), .ref (a 19)]) ⟨hx, hb, hml, hown, hts⟩ (c_DB_state_T2 l hL dI dO dG dN dT aN aB nS nP nR nG nO nU nT tP tR tO tN tF tZ mP mN q x hq hb0) (cwV 2 hts (gw_V k530 k531 k532 k27 k533) rfl rfl rfl (by decide +kernel) ⟨Nat.le_of_ble_eq_true rfl, Nat.le_of_ble_eq_true rfl⟩) ⟨tPre_blind, va_recv (q0 := 0) hK (va_P_left hP) rfl rfl, fun U hU hW => ⟨rfl, ⟨by rw [hU]; exact va_P_left hP, va_K.moved hW.alike hK⟩, hT.moved hW (fun q cell h _ => by rw [hU]; exact h)⟩⟩ rfl rfl hl.1 rfl (lv_room (Nat.le_of_ble_eq_true rfl)) dLW_state_5 ⟨by decide, by decide⟩) ht hown (by decide) (hts _ k280) (fun H1 x0 hkeep => ?_)
  refine lv_astore (lv' := [(4, .ref x0), (0, .ref (a 0)), (1, .int (nI q)), (2, .int x), (3, .ref (a 19))]) hx hb dLW_state_13 hl (by decide) rfl (fun ls hl => ?_)
  refine lv_iconst (v := 1) hx hb dLW_state_15 (by decide) ?_
  exact g_iret (v := (((dI, dO, dG, dN, dT), (aN, aB), (nS, nP, nR, nG, nO, nU, nT), (tP, tR, tO, tN, tF, tZ), (mP, mN)), fo)) hx hb hr hK (keep_P hkeep hP) (keep_S hkeep hS) ⟨rfl, rfl⟩ hlocks dLW_state_16
set_option maxHeartbeats 4000000 in
set_option maxRecDepth 100000 in
theorem h_known (l : Launch) (hL : l.stackTraces = false) {D : va_G} {cI cL : ClassId} {a : Nat → Nat} (hIa : aI a 20) (dI : Nat) (dO dG dN dT : Int32) (aN aB : Nat → Int32) (nS nP nR nG : Nat → Int32) (nO nU : Nat → Int64) (nT : Nat → Int32) (tP tR tO tN : Nat → Int32) (tF tZ : Nat) (mP : Nat → Int32) (mN : Int64) (fo : Nat → Int64) (g : Nat) (hg : g < 64) : Met l yLW_known wsLW_known ({ frames := 3, cells := 1, slots := 6, locals := 61 }) (va_Pc [.ref (a 0), .int (nI g), .ref (a 19)] (tPre D (tyC cI cL) (wL cI cL a) (((dI, dO, dG, dN, dT), (aN, aB), (nS, nP, nR, nG, nO, nU, nT), (tP, tR, tO, tN, tF, tZ), (mP, mN)), fo))) (va_Qi (fun (r : Int32) (u : LZ) => r = 0 ∧ u = (((dI, dO, dG, dN, dT), (aN, aB), (nS, nP, nR, nG, nO, nU, nT), (tP, tR, tO, tN, tF, tZ), (mP, mN)), vp_updL fo 0 ((fDB_known aN g).toInt64))) (gG D (tyC cI cL) (wL cI cL a)) (aS a 20)) 1 6 (aS a 20) := by
  have hA : ∀ v : LZ, va_D (aS a 20) (wL cI cL a v) := fun v => dS (wL_ad cI cL a v) hIa
  have hA1 : ∀ v : CS, va_D (aS a 19) (wC cI cL a v) := fun v => dS (wC_ad cI cL a v) (hIa.le (by decide))
  refine w_enter (by decide) rfl (Nat.le_of_ble_eq_true rfl) ?_
  intro p e s m below meth c ls F ht hK hP hT hl
  obtain ⟨hx, hb, hr, hml, hown, hts, hlocks⟩ := id F
  have hS : va_S (aS a 20) s.heap s.heap [] := va_S.rf
  have hl : lv_has ls 4 [(0, .ref (a 0)), (1, .int (nI g)), (2, .ref (a 19))] := hl
  refine lv_aload_n hx hb dLW_known_0 rfl (lv_at hl 2 rfl) ?_
  refine lv_iconst (v := nI 0) hx hb dLW_known_1 (by decide) ?_
  refine lv_aload_n hx hb dLW_known_2 rfl (lv_at hl 0 rfl) ?_
  refine lv_iload_n hx hb dLW_known_3 rfl (lv_at hl 1 rfl) ?_
  refine W.widen (k := 1) (n := 6) (by decide) (by decide) ?_
  refine g_roVi (w := wC cI cL a) (v := ((dI, dO, dG, dN, dT), (aN, aB), (nS, nP, nR, nG, nO, nU, nT), (tP, tR, tO, tN, tF, tZ), (mP, mN))) (As := [.int (nI g)]) (rest := [.int (nI 0), .ref (a 19)]) ⟨hx, hb, hml, hown, hts⟩ (c_DB_known l dI dO dG dN dT aN aB nS nP nR nG nO nU nT tP tR tO tN tF tZ mP mN g hg) (cwV 1 hts (gw_V k541 k542 k543 k27 k544) rfl rfl rfl (by decide +kernel) ⟨Nat.le_of_ble_eq_true rfl, Nat.le_of_ble_eq_true rfl⟩) hK (va_P_left hP) (va_recv (q0 := 0) hK (va_P_left hP) rfl rfl) rfl hl.1 rfl (Nat.le_of_ble_eq_true rfl) dLW_known_4 ⟨by decide, by decide⟩ ?_
  have hP : va_P D vwCl (wL cI cL a (((dI, dO, dG, dN, dT), (aN, aB), (nS, nP, nR, nG, nO, nU, nT), (tP, tR, tO, tN, tF, tZ), (mP, mN)), fo)) s.heap := hP
  refine lv_i2l (v := (fDB_known aN g).toInt64) hx hb dLW_known_7 rfl ?_
  refine ir_last hx hb hK hP (hA (((dI, dO, dG, dN, dT), (aN, aB), (nS, nP, nR, nG, nO, nU, nT), (tP, tR, tO, tN, tF, tZ), (mP, mN)), fo)) hS 19 1 rfl rfl (k := 0) (by decide) (by decide) dLW_known_8 (fun H locs hP hS => ?_)
  have hP : va_P D vwCl (wL cI cL a (((dI, dO, dG, dN, dT), (aN, aB), (nS, nP, nR, nG, nO, nU, nT), (tP, tR, tO, tN, tF, tZ), (mP, mN)), vp_updL fo 0 ((fDB_known aN g).toInt64))) H := hP
  refine lv_goto hx hb (tgt := 15) dLW_known_9 (by decide) ?_
  refine lv_iconst (v := 0) hx hb dLW_known_15 (by decide) ?_
  exact g_iret (v := (((dI, dO, dG, dN, dT), (aN, aB), (nS, nP, nR, nG, nO, nU, nT), (tP, tR, tO, tN, tF, tZ), (mP, mN)), vp_updL fo 0 ((fDB_known aN g).toInt64))) hx hb hr hK hP hS ⟨rfl, rfl⟩ hlocks dLW_known_16
set_option maxHeartbeats 4000000 in
set_option maxRecDepth 100000 in
theorem h_known_T (l : Launch) (hL : l.stackTraces = false) {D : va_G} {cI cL : ClassId} {a : Nat → Nat} (hIa : aI a 20) (dI : Nat) (dO dG dN dT : Int32) (aN aB : Nat → Int32) (nS nP nR nG : Nat → Int32) (nO nU : Nat → Int64) (nT : Nat → Int32) (tP tR tO tN : Nat → Int32) (tF tZ : Nat) (mP : Nat → Int32) (mN : Int64) (fo : Nat → Int64) (x : Int32) (hb0 : fDB_isRouter x = false) : Met l yLW_known wsLW_known ({ frames := 8, cells := 1, slots := 6, locals := 123 }) (va_Pc [.ref (a 0), .int x, .ref (a 19)] (tPre D (tyC cI cL) (wL cI cL a) (((dI, dO, dG, dN, dT), (aN, aB), (nS, nP, nR, nG, nO, nU, nT), (tP, tR, tO, tN, tF, tZ), (mP, mN)), fo))) (va_Qi (fun (r : Int32) (u : LZ) => r = 1 ∧ u = (((dI, dO, dG, dN, dT), (aN, aB), (nS, nP, nR, nG, nO, nU, nT), (tP, tR, tO, tN, tF, tZ), (mP, mN)), fo)) (gG D (tyC cI cL) (wL cI cL a)) (aS a 20)) 1 6 (aS a 20) := by
  have hA : ∀ v : LZ, va_D (aS a 20) (wL cI cL a v) := fun v => dS (wL_ad cI cL a v) hIa
  have hA1 : ∀ v : CS, va_D (aS a 19) (wC cI cL a v) := fun v => dS (wC_ad cI cL a v) (hIa.le (by decide))
  refine w_enter (by decide) rfl (Nat.le_of_ble_eq_true rfl) ?_
  intro p e s m below meth c ls F ht hK hP hT hl
  obtain ⟨hx, hb, hr, hml, hown, hts, hlocks⟩ := id F
  have hS : va_S (aS a 20) s.heap s.heap [] := va_S.rf
  have hl : lv_has ls 4 [(0, .ref (a 0)), (1, .int x), (2, .ref (a 19))] := hl
  refine lv_aload_n hx hb dLW_known_0 rfl (lv_at hl 2 rfl) ?_
  refine lv_iconst (v := nI 0) hx hb dLW_known_1 (by decide) ?_
  refine lv_aload_n hx hb dLW_known_2 rfl (lv_at hl 0 rfl) ?_
  refine lv_iload_n hx hb dLW_known_3 rfl (lv_at hl 1 rfl) ?_
  refine w_catch1 (t_runV (As := [.int x]) (rest := [.int (nI 0), .ref (a 19)]) ⟨hx, hb, hml, hown, hts⟩ (c_DB_known_T l hL dI dO dG dN dT aN aB nS nP nR nG nO nU nT tP tR tO tN tF tZ mP mN x hb0) (cwV 1 hts (gw_V k541 k542 k543 k27 k544) rfl rfl rfl (by decide +kernel) ⟨Nat.le_of_ble_eq_true rfl, Nat.le_of_ble_eq_true rfl⟩) ⟨tPre_blind, va_recv (q0 := 0) hK (va_P_left hP) rfl rfl, fun U hU hW => ⟨rfl, ⟨by rw [hU]; exact va_P_left hP, va_K.moved hW.alike hK⟩, hT.moved hW (fun q cell h _ => by rw [hU]; exact h)⟩⟩ rfl rfl hl.1 rfl (lv_room (Nat.le_of_ble_eq_true rfl)) dLW_known_4 ⟨by decide, by decide⟩) ht hown (by decide) (hts _ k280) (fun H1 x0 hkeep => ?_)
  refine lv_astore_n (lv' := [(3, .ref x0), (0, .ref (a 0)), (1, .int x), (2, .ref (a 19))]) hx hb dLW_known_12 rfl hl (by decide) rfl (fun ls hl => ?_)
  refine lv_iconst (v := 1) hx hb dLW_known_13 (by decide) ?_
  exact g_iret (v := (((dI, dO, dG, dN, dT), (aN, aB), (nS, nP, nR, nG, nO, nU, nT), (tP, tR, tO, tN, tF, tZ), (mP, mN)), fo)) hx hb hr hK (keep_P hkeep hP) (keep_S hkeep hS) ⟨rfl, rfl⟩ hlocks dLW_known_14
set_option maxHeartbeats 4000000 in
set_option maxRecDepth 100000 in
theorem h_body (l : Launch) (hL : l.stackTraces = false) {D : va_G} {cI cL : ClassId} {a : Nat → Nat} (hIa : aI a 20) (dI : Nat) (dO dG dN dT : Int32) (aN aB : Nat → Int32) (nS nP nR nG : Nat → Int32) (nO nU : Nat → Int64) (nT : Nat → Int32) (tP tR tO tN : Nat → Int32) (tF tZ : Nat) (mP : Nat → Int32) (mN : Int64) (fo : Nat → Int64) (g : Nat) (hg : g < 64) : Met l yLW_body wsLW_body ({ frames := 3, cells := 1, slots := 6, locals := 61 }) (va_Pc [.ref (a 0), .int (nI g), .ref (a 19)] (tPre D (tyC cI cL) (wL cI cL a) (((dI, dO, dG, dN, dT), (aN, aB), (nS, nP, nR, nG, nO, nU, nT), (tP, tR, tO, tN, tF, tZ), (mP, mN)), fo))) (va_Qi (fun (r : Int32) (u : LZ) => r = 0 ∧ u = (((dI, dO, dG, dN, dT), (aN, aB), (nS, nP, nR, nG, nO, nU, nT), (tP, tR, tO, tN, tF, tZ), (mP, mN)), vp_updL fo 0 ((aB g).toInt64))) (gG D (tyC cI cL) (wL cI cL a)) (aS a 20)) 1 6 (aS a 20) := by
  have hA : ∀ v : LZ, va_D (aS a 20) (wL cI cL a v) := fun v => dS (wL_ad cI cL a v) hIa
  have hA1 : ∀ v : CS, va_D (aS a 19) (wC cI cL a v) := fun v => dS (wC_ad cI cL a v) (hIa.le (by decide))
  refine w_enter (by decide) rfl (Nat.le_of_ble_eq_true rfl) ?_
  intro p e s m below meth c ls F ht hK hP hT hl
  obtain ⟨hx, hb, hr, hml, hown, hts, hlocks⟩ := id F
  have hS : va_S (aS a 20) s.heap s.heap [] := va_S.rf
  have hl : lv_has ls 4 [(0, .ref (a 0)), (1, .int (nI g)), (2, .ref (a 19))] := hl
  refine lv_aload_n hx hb dLW_body_0 rfl (lv_at hl 2 rfl) ?_
  refine lv_iconst (v := nI 0) hx hb dLW_body_1 (by decide) ?_
  refine lv_aload_n hx hb dLW_body_2 rfl (lv_at hl 0 rfl) ?_
  refine lv_iload_n hx hb dLW_body_3 rfl (lv_at hl 1 rfl) ?_
  refine W.widen (k := 1) (n := 6) (by decide) (by decide) ?_
  refine g_roVi (w := wC cI cL a) (v := ((dI, dO, dG, dN, dT), (aN, aB), (nS, nP, nR, nG, nO, nU, nT), (tP, tR, tO, tN, tF, tZ), (mP, mN))) (As := [.int (nI g)]) (rest := [.int (nI 0), .ref (a 19)]) ⟨hx, hb, hml, hown, hts⟩ (c_DB_body l dI dO dG dN dT aN aB nS nP nR nG nO nU nT tP tR tO tN tF tZ mP mN g hg) (cwV 1 hts (gw_V k548 k549 k550 k27 k551) rfl rfl rfl (by decide +kernel) ⟨Nat.le_of_ble_eq_true rfl, Nat.le_of_ble_eq_true rfl⟩) hK (va_P_left hP) (va_recv (q0 := 0) hK (va_P_left hP) rfl rfl) rfl hl.1 rfl (Nat.le_of_ble_eq_true rfl) dLW_body_4 ⟨by decide, by decide⟩ ?_
  have hP : va_P D vwCl (wL cI cL a (((dI, dO, dG, dN, dT), (aN, aB), (nS, nP, nR, nG, nO, nU, nT), (tP, tR, tO, tN, tF, tZ), (mP, mN)), fo)) s.heap := hP
  refine lv_i2l (v := (aB g).toInt64) hx hb dLW_body_7 rfl ?_
  refine ir_last hx hb hK hP (hA (((dI, dO, dG, dN, dT), (aN, aB), (nS, nP, nR, nG, nO, nU, nT), (tP, tR, tO, tN, tF, tZ), (mP, mN)), fo)) hS 19 1 rfl rfl (k := 0) (by decide) (by decide) dLW_body_8 (fun H locs hP hS => ?_)
  have hP : va_P D vwCl (wL cI cL a (((dI, dO, dG, dN, dT), (aN, aB), (nS, nP, nR, nG, nO, nU, nT), (tP, tR, tO, tN, tF, tZ), (mP, mN)), vp_updL fo 0 ((aB g).toInt64))) H := hP
  refine lv_goto hx hb (tgt := 15) dLW_body_9 (by decide) ?_
  refine lv_iconst (v := 0) hx hb dLW_body_15 (by decide) ?_
  exact g_iret (v := (((dI, dO, dG, dN, dT), (aN, aB), (nS, nP, nR, nG, nO, nU, nT), (tP, tR, tO, tN, tF, tZ), (mP, mN)), vp_updL fo 0 ((aB g).toInt64))) hx hb hr hK hP hS ⟨rfl, rfl⟩ hlocks dLW_body_16
set_option maxHeartbeats 4000000 in
set_option maxRecDepth 100000 in
theorem h_body_T (l : Launch) (hL : l.stackTraces = false) {D : va_G} {cI cL : ClassId} {a : Nat → Nat} (hIa : aI a 20) (dI : Nat) (dO dG dN dT : Int32) (aN aB : Nat → Int32) (nS nP nR nG : Nat → Int32) (nO nU : Nat → Int64) (nT : Nat → Int32) (tP tR tO tN : Nat → Int32) (tF tZ : Nat) (mP : Nat → Int32) (mN : Int64) (fo : Nat → Int64) (x : Int32) (hb0 : fDB_isRouter x = false) : Met l yLW_body wsLW_body ({ frames := 8, cells := 1, slots := 6, locals := 123 }) (va_Pc [.ref (a 0), .int x, .ref (a 19)] (tPre D (tyC cI cL) (wL cI cL a) (((dI, dO, dG, dN, dT), (aN, aB), (nS, nP, nR, nG, nO, nU, nT), (tP, tR, tO, tN, tF, tZ), (mP, mN)), fo))) (va_Qi (fun (r : Int32) (u : LZ) => r = 1 ∧ u = (((dI, dO, dG, dN, dT), (aN, aB), (nS, nP, nR, nG, nO, nU, nT), (tP, tR, tO, tN, tF, tZ), (mP, mN)), fo)) (gG D (tyC cI cL) (wL cI cL a)) (aS a 20)) 1 6 (aS a 20) := by
  have hA : ∀ v : LZ, va_D (aS a 20) (wL cI cL a v) := fun v => dS (wL_ad cI cL a v) hIa
  have hA1 : ∀ v : CS, va_D (aS a 19) (wC cI cL a v) := fun v => dS (wC_ad cI cL a v) (hIa.le (by decide))
  refine w_enter (by decide) rfl (Nat.le_of_ble_eq_true rfl) ?_
  intro p e s m below meth c ls F ht hK hP hT hl
  obtain ⟨hx, hb, hr, hml, hown, hts, hlocks⟩ := id F
  have hS : va_S (aS a 20) s.heap s.heap [] := va_S.rf
  have hl : lv_has ls 4 [(0, .ref (a 0)), (1, .int x), (2, .ref (a 19))] := hl
  refine lv_aload_n hx hb dLW_body_0 rfl (lv_at hl 2 rfl) ?_
  refine lv_iconst (v := nI 0) hx hb dLW_body_1 (by decide) ?_
  refine lv_aload_n hx hb dLW_body_2 rfl (lv_at hl 0 rfl) ?_
  refine lv_iload_n hx hb dLW_body_3 rfl (lv_at hl 1 rfl) ?_
  refine w_catch1 (t_runV (As := [.int x]) (rest := [.int (nI 0), .ref (a 19)]) ⟨hx, hb, hml, hown, hts⟩ (c_DB_body_T l hL dI dO dG dN dT aN aB nS nP nR nG nO nU nT tP tR tO tN tF tZ mP mN x hb0) (cwV 1 hts (gw_V k548 k549 k550 k27 k551) rfl rfl rfl (by decide +kernel) ⟨Nat.le_of_ble_eq_true rfl, Nat.le_of_ble_eq_true rfl⟩) ⟨tPre_blind, va_recv (q0 := 0) hK (va_P_left hP) rfl rfl, fun U hU hW => ⟨rfl, ⟨by rw [hU]; exact va_P_left hP, va_K.moved hW.alike hK⟩, hT.moved hW (fun q cell h _ => by rw [hU]; exact h)⟩⟩ rfl rfl hl.1 rfl (lv_room (Nat.le_of_ble_eq_true rfl)) dLW_body_4 ⟨by decide, by decide⟩) ht hown (by decide) (hts _ k280) (fun H1 x0 hkeep => ?_)
  refine lv_astore_n (lv' := [(3, .ref x0), (0, .ref (a 0)), (1, .int x), (2, .ref (a 19))]) hx hb dLW_body_12 rfl hl (by decide) rfl (fun ls hl => ?_)
  refine lv_iconst (v := 1) hx hb dLW_body_13 (by decide) ?_
  exact g_iret (v := (((dI, dO, dG, dN, dT), (aN, aB), (nS, nP, nR, nG, nO, nU, nT), (tP, tR, tO, tN, tF, tZ), (mP, mN)), fo)) hx hb hr hK (keep_P hkeep hP) (keep_S hkeep hS) ⟨rfl, rfl⟩ hlocks dLW_body_14
set_option maxHeartbeats 4000000 in
set_option maxRecDepth 100000 in
theorem h_due (l : Launch) (hL : l.stackTraces = false) {D : va_G} {cI cL : ClassId} {a : Nat → Nat} (hIa : aI a 20) (dI : Nat) (dO dG dN dT : Int32) (aN aB : Nat → Int32) (nS nP nR nG : Nat → Int32) (nO nU : Nat → Int64) (nT : Nat → Int32) (tP tR tO tN : Nat → Int32) (tF tZ : Nat) (mP : Nat → Int32) (mN : Int64) (fo : Nat → Int64) (q : Nat) (o : Nat) (hq : q < 8) (ho : o < 64) : Met l yLW_due wsLW_due ({ frames := 3, cells := 1, slots := 6, locals := 68 }) (va_Pc [.ref (a 0), .int (nI q), .int (nI o), .ref (a 19)] (tPre D (tyC cI cL) (wL cI cL a) (((dI, dO, dG, dN, dT), (aN, aB), (nS, nP, nR, nG, nO, nU, nT), (tP, tR, tO, tN, tF, tZ), (mP, mN)), fo))) (va_Qi (fun (r : Int32) (u : LZ) => r = 0 ∧ u = (((dI, dO, dG, dN, dT), (aN, aB), (nS, nP, nR, nG, nO, nU, nT), (tP, tR, tO, tN, tF, tZ), (mP, mN)), vp_updL fo 0 ((fNB_owedTo nS nP nR nO (nI q) (nI o)).toInt64))) (gG D (tyC cI cL) (wL cI cL a)) (aS a 20)) 1 6 (aS a 20) := by
  have hA : ∀ v : LZ, va_D (aS a 20) (wL cI cL a v) := fun v => dS (wL_ad cI cL a v) hIa
  have hA1 : ∀ v : CS, va_D (aS a 19) (wC cI cL a v) := fun v => dS (wC_ad cI cL a v) (hIa.le (by decide))
  refine w_enter (by decide) rfl (Nat.le_of_ble_eq_true rfl) ?_
  intro p e s m below meth c ls F ht hK hP hT hl
  obtain ⟨hx, hb, hr, hml, hown, hts, hlocks⟩ := id F
  have hS : va_S (aS a 20) s.heap s.heap [] := va_S.rf
  have hl : lv_has ls 5 [(0, .ref (a 0)), (1, .int (nI q)), (2, .int (nI o)), (3, .ref (a 19))] := hl
  refine lv_aload_n hx hb dLW_due_0 rfl (lv_at hl 3 rfl) ?_
  refine lv_iconst (v := nI 0) hx hb dLW_due_1 (by decide) ?_
  refine lv_aload_n hx hb dLW_due_2 rfl (lv_at hl 0 rfl) ?_
  refine lv_iload_n hx hb dLW_due_3 rfl (lv_at hl 1 rfl) ?_
  refine lv_iload_n hx hb dLW_due_4 rfl (lv_at hl 2 rfl) ?_
  refine W.widen (k := 1) (n := 6) (by decide) (by decide) ?_
  refine g_roVi (w := wC cI cL a) (v := ((dI, dO, dG, dN, dT), (aN, aB), (nS, nP, nR, nG, nO, nU, nT), (tP, tR, tO, tN, tF, tZ), (mP, mN))) (As := [.int (nI q), .int (nI o)]) (rest := [.int (nI 0), .ref (a 19)]) ⟨hx, hb, hml, hown, hts⟩ (c_DB_due l dI dO dG dN dT aN aB nS nP nR nG nO nU nT tP tR tO tN tF tZ mP mN q o hq ho) (cwV 2 hts (gw_V k555 k556 k557 k27 k558) rfl rfl rfl (by decide +kernel) ⟨Nat.le_of_ble_eq_true rfl, Nat.le_of_ble_eq_true rfl⟩) hK (va_P_left hP) (va_recv (q0 := 0) hK (va_P_left hP) rfl rfl) rfl hl.1 rfl (Nat.le_of_ble_eq_true rfl) dLW_due_5 ⟨by decide, by decide⟩ ?_
  have hP : va_P D vwCl (wL cI cL a (((dI, dO, dG, dN, dT), (aN, aB), (nS, nP, nR, nG, nO, nU, nT), (tP, tR, tO, tN, tF, tZ), (mP, mN)), fo)) s.heap := hP
  refine lv_i2l (v := (fNB_owedTo nS nP nR nO (nI q) (nI o)).toInt64) hx hb dLW_due_8 rfl ?_
  refine ir_last hx hb hK hP (hA (((dI, dO, dG, dN, dT), (aN, aB), (nS, nP, nR, nG, nO, nU, nT), (tP, tR, tO, tN, tF, tZ), (mP, mN)), fo)) hS 19 1 rfl rfl (k := 0) (by decide) (by decide) dLW_due_9 (fun H locs hP hS => ?_)
  have hP : va_P D vwCl (wL cI cL a (((dI, dO, dG, dN, dT), (aN, aB), (nS, nP, nR, nG, nO, nU, nT), (tP, tR, tO, tN, tF, tZ), (mP, mN)), vp_updL fo 0 ((fNB_owedTo nS nP nR nO (nI q) (nI o)).toInt64))) H := hP
  refine lv_goto hx hb (tgt := 17) dLW_due_10 (by decide) ?_
  refine lv_iconst (v := 0) hx hb dLW_due_17 (by decide) ?_
  exact g_iret (v := (((dI, dO, dG, dN, dT), (aN, aB), (nS, nP, nR, nG, nO, nU, nT), (tP, tR, tO, tN, tF, tZ), (mP, mN)), vp_updL fo 0 ((fNB_owedTo nS nP nR nO (nI q) (nI o)).toInt64))) hx hb hr hK hP hS ⟨rfl, rfl⟩ hlocks dLW_due_18
set_option maxHeartbeats 4000000 in
set_option maxRecDepth 100000 in
theorem h_due_T1 (l : Launch) (hL : l.stackTraces = false) {D : va_G} {cI cL : ClassId} {a : Nat → Nat} (hIa : aI a 20) (dI : Nat) (dO dG dN dT : Int32) (aN aB : Nat → Int32) (nS nP nR nG : Nat → Int32) (nO nU : Nat → Int64) (nT : Nat → Int32) (tP tR tO tN : Nat → Int32) (tF tZ : Nat) (mP : Nat → Int32) (mN : Int64) (fo : Nat → Int64) (x : Int32) (y : Int32) (hb0 : fDB_isPort x = false) : Met l yLW_due wsLW_due ({ frames := 8, cells := 1, slots := 6, locals := 124 }) (va_Pc [.ref (a 0), .int x, .int y, .ref (a 19)] (tPre D (tyC cI cL) (wL cI cL a) (((dI, dO, dG, dN, dT), (aN, aB), (nS, nP, nR, nG, nO, nU, nT), (tP, tR, tO, tN, tF, tZ), (mP, mN)), fo))) (va_Qi (fun (r : Int32) (u : LZ) => r = 1 ∧ u = (((dI, dO, dG, dN, dT), (aN, aB), (nS, nP, nR, nG, nO, nU, nT), (tP, tR, tO, tN, tF, tZ), (mP, mN)), fo)) (gG D (tyC cI cL) (wL cI cL a)) (aS a 20)) 1 6 (aS a 20) := by
  have hA : ∀ v : LZ, va_D (aS a 20) (wL cI cL a v) := fun v => dS (wL_ad cI cL a v) hIa
  have hA1 : ∀ v : CS, va_D (aS a 19) (wC cI cL a v) := fun v => dS (wC_ad cI cL a v) (hIa.le (by decide))
  refine w_enter (by decide) rfl (Nat.le_of_ble_eq_true rfl) ?_
  intro p e s m below meth c ls F ht hK hP hT hl
  obtain ⟨hx, hb, hr, hml, hown, hts, hlocks⟩ := id F
  have hS : va_S (aS a 20) s.heap s.heap [] := va_S.rf
  have hl : lv_has ls 5 [(0, .ref (a 0)), (1, .int x), (2, .int y), (3, .ref (a 19))] := hl
  refine lv_aload_n hx hb dLW_due_0 rfl (lv_at hl 3 rfl) ?_
  refine lv_iconst (v := nI 0) hx hb dLW_due_1 (by decide) ?_
  refine lv_aload_n hx hb dLW_due_2 rfl (lv_at hl 0 rfl) ?_
  refine lv_iload_n hx hb dLW_due_3 rfl (lv_at hl 1 rfl) ?_
  refine lv_iload_n hx hb dLW_due_4 rfl (lv_at hl 2 rfl) ?_
  refine w_catch1 (t_runV (As := [.int x, .int y]) (rest := [.int (nI 0), .ref (a 19)]) ⟨hx, hb, hml, hown, hts⟩ (c_DB_due_T1 l hL dI dO dG dN dT aN aB nS nP nR nG nO nU nT tP tR tO tN tF tZ mP mN x y hb0) (cwV 2 hts (gw_V k555 k556 k557 k27 k558) rfl rfl rfl (by decide +kernel) ⟨Nat.le_of_ble_eq_true rfl, Nat.le_of_ble_eq_true rfl⟩) ⟨tPre_blind, va_recv (q0 := 0) hK (va_P_left hP) rfl rfl, fun U hU hW => ⟨rfl, ⟨by rw [hU]; exact va_P_left hP, va_K.moved hW.alike hK⟩, hT.moved hW (fun q cell h _ => by rw [hU]; exact h)⟩⟩ rfl rfl hl.1 rfl (lv_room (Nat.le_of_ble_eq_true rfl)) dLW_due_5 ⟨by decide, by decide⟩) ht hown (by decide) (hts _ k280) (fun H1 x0 hkeep => ?_)
  refine lv_astore (lv' := [(4, .ref x0), (0, .ref (a 0)), (1, .int x), (2, .int y), (3, .ref (a 19))]) hx hb dLW_due_13 hl (by decide) rfl (fun ls hl => ?_)
  refine lv_iconst (v := 1) hx hb dLW_due_15 (by decide) ?_
  exact g_iret (v := (((dI, dO, dG, dN, dT), (aN, aB), (nS, nP, nR, nG, nO, nU, nT), (tP, tR, tO, tN, tF, tZ), (mP, mN)), fo)) hx hb hr hK (keep_P hkeep hP) (keep_S hkeep hS) ⟨rfl, rfl⟩ hlocks dLW_due_16
set_option maxHeartbeats 4000000 in
set_option maxRecDepth 100000 in
theorem h_due_T2 (l : Launch) (hL : l.stackTraces = false) {D : va_G} {cI cL : ClassId} {a : Nat → Nat} (hIa : aI a 20) (dI : Nat) (dO dG dN dT : Int32) (aN aB : Nat → Int32) (nS nP nR nG : Nat → Int32) (nO nU : Nat → Int64) (nT : Nat → Int32) (tP tR tO tN : Nat → Int32) (tF tZ : Nat) (mP : Nat → Int32) (mN : Int64) (fo : Nat → Int64) (q : Nat) (x : Int32) (hq : q < 8) (hb0 : fDB_isRouter x = false) : Met l yLW_due wsLW_due ({ frames := 8, cells := 1, slots := 6, locals := 124 }) (va_Pc [.ref (a 0), .int (nI q), .int x, .ref (a 19)] (tPre D (tyC cI cL) (wL cI cL a) (((dI, dO, dG, dN, dT), (aN, aB), (nS, nP, nR, nG, nO, nU, nT), (tP, tR, tO, tN, tF, tZ), (mP, mN)), fo))) (va_Qi (fun (r : Int32) (u : LZ) => r = 1 ∧ u = (((dI, dO, dG, dN, dT), (aN, aB), (nS, nP, nR, nG, nO, nU, nT), (tP, tR, tO, tN, tF, tZ), (mP, mN)), fo)) (gG D (tyC cI cL) (wL cI cL a)) (aS a 20)) 1 6 (aS a 20) := by
  have hA : ∀ v : LZ, va_D (aS a 20) (wL cI cL a v) := fun v => dS (wL_ad cI cL a v) hIa
  have hA1 : ∀ v : CS, va_D (aS a 19) (wC cI cL a v) := fun v => dS (wC_ad cI cL a v) (hIa.le (by decide))
  refine w_enter (by decide) rfl (Nat.le_of_ble_eq_true rfl) ?_
  intro p e s m below meth c ls F ht hK hP hT hl
  obtain ⟨hx, hb, hr, hml, hown, hts, hlocks⟩ := id F
  have hS : va_S (aS a 20) s.heap s.heap [] := va_S.rf
  have hl : lv_has ls 5 [(0, .ref (a 0)), (1, .int (nI q)), (2, .int x), (3, .ref (a 19))] := hl
  refine lv_aload_n hx hb dLW_due_0 rfl (lv_at hl 3 rfl) ?_
  refine lv_iconst (v := nI 0) hx hb dLW_due_1 (by decide) ?_
  refine lv_aload_n hx hb dLW_due_2 rfl (lv_at hl 0 rfl) ?_
  refine lv_iload_n hx hb dLW_due_3 rfl (lv_at hl 1 rfl) ?_
  refine lv_iload_n hx hb dLW_due_4 rfl (lv_at hl 2 rfl) ?_
  refine w_catch1 (t_runV (As := [.int (nI q), .int x]) (rest := [.int (nI 0), .ref (a 19)]) ⟨hx, hb, hml, hown, hts⟩ (c_DB_due_T2 l hL dI dO dG dN dT aN aB nS nP nR nG nO nU nT tP tR tO tN tF tZ mP mN q x hq hb0) (cwV 2 hts (gw_V k555 k556 k557 k27 k558) rfl rfl rfl (by decide +kernel) ⟨Nat.le_of_ble_eq_true rfl, Nat.le_of_ble_eq_true rfl⟩) ⟨tPre_blind, va_recv (q0 := 0) hK (va_P_left hP) rfl rfl, fun U hU hW => ⟨rfl, ⟨by rw [hU]; exact va_P_left hP, va_K.moved hW.alike hK⟩, hT.moved hW (fun q cell h _ => by rw [hU]; exact h)⟩⟩ rfl rfl hl.1 rfl (lv_room (Nat.le_of_ble_eq_true rfl)) dLW_due_5 ⟨by decide, by decide⟩) ht hown (by decide) (hts _ k280) (fun H1 x0 hkeep => ?_)
  refine lv_astore (lv' := [(4, .ref x0), (0, .ref (a 0)), (1, .int (nI q)), (2, .int x), (3, .ref (a 19))]) hx hb dLW_due_13 hl (by decide) rfl (fun ls hl => ?_)
  refine lv_iconst (v := 1) hx hb dLW_due_15 (by decide) ?_
  exact g_iret (v := (((dI, dO, dG, dN, dT), (aN, aB), (nS, nP, nR, nG, nO, nU, nT), (tP, tR, tO, tN, tF, tZ), (mP, mN)), fo)) hx hb hr hK (keep_P hkeep hP) (keep_S hkeep hS) ⟨rfl, rfl⟩ hlocks dLW_due_16
