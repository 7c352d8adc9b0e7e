def wp_X6_isSort_30 (post : Int32 → CS → Prop) (x1 : Int32) (S : CS) : Prop :=
 ((¬ x1 = (1 : Int32) →
 post (0 : Int32) S) ∧
 (x1 = (1 : Int32) →
 post (1 : Int32) S))
def wp_X6_isSort (S : CS) (x0 : Int32) (x1 : Int32) (post : Int32 → CS → Prop) : Prop :=
 ((¬ x0 = 0 →
 ((x0 = (1 : Int32) →
 wp_X6_isSort_30 post x1 S) ∧
 (¬ x0 = (1 : Int32) →
 ((¬ x0 = (2 : Int32) →
 post (0 : Int32) S) ∧
 (x0 = (2 : Int32) →
 wp_X6_isSort_30 post x1 S))))) ∧
 (x0 = 0 →
 ((x1 < (1 : Int32) →
 post (0 : Int32) S) ∧
 (¬ x1 < (1 : Int32) →
 (((4 : Int32) < x1 →
 post (0 : Int32) S) ∧
 (¬ (4 : Int32) < x1 →
 post (1 : Int32) S))))))
def wp_X4_isFull (S : CS) (post : Int32 → CS → Prop) : Prop :=
 (((gC_vmade S) < (16 : Int32) →
 post (0 : Int32) S) ∧
 (¬ (gC_vmade S) < (16 : Int32) →
 post (1 : Int32) S))
def wp_X6_forget (S : CS) (post : CS → Prop) : Prop :=
 ∀ S_1 : CS, S_1 = sC_wK S (0 : Int32) → ∀ S_2 : CS, S_2 = sC_eK S_1 (0 : Int32) → ∀ S_3 : CS, S_3 = sC_lK S_2 (0 : Int32) → post S_3
def wp_X4_add (S : CS) (x1 : Int32) (x2 : Int32) (post : Int32 → CS → Prop) : Prop :=
 vp_in (gC_vmade S) 16 ∧ ∀ S_1 : CS, S_1 = sC_sorts S (upd (gC_sorts S) (gC_vmade S).toNatClampNeg x1) → vp_in (gC_vmade S_1) 16 ∧ ∀ S_2 : CS, S_2 = sC_lcs S_1 (upd (gC_lcs S_1) (gC_vmade S_1).toNatClampNeg x2) → ∀ S_3 : CS, S_3 = sC_vmade S_2 ((gC_vmade S_2) + (1 : Int32)) → post ((gC_vmade S_3) - (1 : Int32)) S_3
def wp_X6_variable (S : CS) (x1 : Int32) (x2 : Int32) (post : Int32 → CS → Prop) : Prop :=
 wp_X6_isSort S x1 x2 (fun r2 S2 =>
 ((r2 = 0 →
 post (-1 : Int32) S2) ∧
 (¬ r2 = 0 →
 wp_X4_isFull S2 (fun r12 S12 =>
 ((r12 = 0 →
 wp_X6_forget S12 (fun S21 =>
 wp_X4_add S21 x1 x2 (fun r30 S30 =>
 post r30 S30))) ∧
 (¬ r12 = 0 →
 post (-1 : Int32) S12))))))
def wp_X4_has (S : CS) (x1 : Int32) (post : Int32 → CS → Prop) : Prop :=
 ((x1 < 0 →
 post (0 : Int32) S) ∧
 (¬ x1 < 0 →
 (((gC_vmade S) ≤ x1 →
 post (0 : Int32) S) ∧
 (¬ (gC_vmade S) ≤ x1 →
 post (1 : Int32) S))))
def wp_X4_hasParts (S : CS) (x1 : Int32) (post : Int32 → CS → Prop) : Prop :=
 wp_X4_has S x1 (fun r2 S2 =>
 ((r2 = 0 →
 post (0 : Int32) S2) ∧
 (¬ r2 = 0 →
 vp_in x1 16 ∧ (((gC_lcs S2 (x1).toNatClampNeg) ≤ (1 : Int32) →
 post (0 : Int32) S2) ∧
 (¬ (gC_lcs S2 (x1).toNatClampNeg) ≤ (1 : Int32) →
 post (1 : Int32) S2)))))
def wp_X3_firstDigit (S : CS) (x0 : Int32) (post : Int32 → CS → Prop) : Prop :=
 post (x0 &&& (7 : Int32)) S
def wp_X6_leafBit (S : CS) (x0 : Int32) (x1 : Int32) (post : Int64 → CS → Prop) : Prop :=
 post ((1 : Int64) <<< (((x0 * (4 : Int32)) + x1).toInt64 &&& 63)) S
def wp_X4_leavesOf_33 (post : Int64 → CS → Prop) (x1 : Int32) (S : CS) : Prop :=
 vp_in x1 16 ∧ ∀ x3_1 : Int64, x3_1 = ((1 : Int64) <<< ((gC_lcs S (x1).toNatClampNeg).toInt64 &&& 63)) - (1 : Int64) → post (x3_1 <<< ((x1 * (4 : Int32)).toInt64 &&& 63)) S
def wp_X4_leavesOf (S : CS) (x1 : Int32) (x2 : Int32) (post : Int64 → CS → Prop) : Prop :=
 wp_X4_has S x1 (fun r2 S2 =>
 ((¬ r2 = 0 →
 wp_X4_hasParts S2 x1 (fun r12 S12 =>
 ((r12 = 0 →
 wp_X4_leavesOf_33 post x1 S12) ∧
 (¬ r12 = 0 →
 ((x2 = 0 →
 wp_X4_leavesOf_33 post x1 S12) ∧
 (¬ x2 = 0 →
 wp_X3_firstDigit S12 x2 (fun r24 S24 =>
 wp_X6_leafBit S24 x1 (r24 - (1 : Int32)) (fun r29 S29 =>
 post r29 S29)))))))) ∧
 (r2 = 0 →
 post (0 : Int64) S2)))
def wp_X4_begin (S : CS) (x1 : Int32) (x2 : Int32) (post : CS → Prop) : Prop :=
 wp_X4_leavesOf S x1 (0 : Int32) (fun r3 S3 =>
 ((x2 = 0 →
 ∀ S_1 : CS, S_1 = sC_begun S3 ((gC_begun S3) &&& (r3 ^^^ (-1 : Int64))) → post S_1) ∧
 (¬ x2 = 0 →
 ∀ S_2 : CS, S_2 = sC_begun S3 ((gC_begun S3) ||| r3) → post S_2)))
def wp_X6_begins (S : CS) (x1 : Int32) (x2 : Int32) (post : Int32 → CS → Prop) : Prop :=
 wp_X4_has S x1 (fun r5 S5 =>
 ((¬ r5 = 0 →
 wp_X4_begin S5 x1 x2 (fun S19 =>
 wp_X6_forget S19 (fun S23 =>
 post (1 : Int32) S23))) ∧
 (r5 = 0 →
 post (-1 : Int32) S5)))
def wp_X6_answer (S : CS) (x0 : Int32) (post : Int32 → CS → Prop) : Prop :=
 ((x0 = 0 →
 post (0 : Int32) S) ∧
 (¬ x0 = 0 →
 post (1 : Int32) S))
def wp_X3_behindFirst (S : CS) (x0 : Int32) (post : Int32 → CS → Prop) : Prop :=
 post (x0 >>> ((3 : Int32) &&& 31)) S
def wp_X4_isWithin (S : CS) (x1 : Int32) (x2 : Int32) (post : Int32 → CS → Prop) : Prop :=
 wp_X4_hasParts S x1 (fun r2 S2 =>
 ((r2 = 0 →
 ((x2 = 0 →
 post (0 : Int32) S2) ∧
 (¬ x2 = 0 →
 post (1 : Int32) S2))) ∧
 (¬ r2 = 0 →
 wp_X3_behindFirst S2 x2 (fun r9 S9 =>
 ((r9 = 0 →
 post (0 : Int32) S9) ∧
 (¬ r9 = 0 →
 post (1 : Int32) S9))))))
def wp_X0_leavesWanted_49 (post : Int64 → CS → Prop) (x2 : Int32) (x3 : Int32) (k0 : Int32) (S : CS) : Prop :=
 ((k0 = 0 →
 post (0 : Int64) S) ∧
 (¬ k0 = 0 →
 wp_X4_leavesOf S x2 x3 (fun r62 S62 =>
 post r62 S62)))
def wp_X0_leavesWanted_44 (K49 : Int32 → Int32 → Int32 → CS → Prop) (post : Int64 → CS → Prop) (x2 : Int32) (x3 : Int32) (S : CS) : Prop :=
 K49 x2 x3 (1 : Int32) S
def wp_X0_leavesWanted_48 (K49 : Int32 → Int32 → Int32 → CS → Prop) (post : Int64 → CS → Prop) (x2 : Int32) (x3 : Int32) (S : CS) : Prop :=
 K49 x2 x3 (0 : Int32) S
def wp_X0_leavesWanted (S : CS) (x1 : Int32) (x2 : Int32) (x3 : Int32) (post : Int64 → CS → Prop) : Prop :=
 ((x1 = (1 : Int32) →
 wp_X0_leavesWanted_44 (fun x2 x3 k0 S => wp_X0_leavesWanted_49 post x2 x3 k0 S) post x2 x3 S) ∧
 (¬ x1 = (1 : Int32) →
 ((x1 = (2 : Int32) →
 wp_X0_leavesWanted_44 (fun x2 x3 k0 S => wp_X0_leavesWanted_49 post x2 x3 k0 S) post x2 x3 S) ∧
 (¬ x1 = (2 : Int32) →
 ((x1 = (4 : Int32) →
 wp_X0_leavesWanted_44 (fun x2 x3 k0 S => wp_X0_leavesWanted_49 post x2 x3 k0 S) post x2 x3 S) ∧
 (¬ x1 = (4 : Int32) →
 ((x1 = (7 : Int32) →
 wp_X0_leavesWanted_44 (fun x2 x3 k0 S => wp_X0_leavesWanted_49 post x2 x3 k0 S) post x2 x3 S) ∧
 (¬ x1 = (7 : Int32) →
 ((x1 = (8 : Int32) →
 wp_X0_leavesWanted_44 (fun x2 x3 k0 S => wp_X0_leavesWanted_49 post x2 x3 k0 S) post x2 x3 S) ∧
 (¬ x1 = (8 : Int32) →
 ((¬ x1 = (3 : Int32) →
 wp_X0_leavesWanted_48 (fun x2 x3 k0 S => wp_X0_leavesWanted_49 post x2 x3 k0 S) post x2 x3 S) ∧
 (x1 = (3 : Int32) →
 wp_X4_isWithin S x2 x3 (fun r38 S38 =>
 ((r38 = 0 →
 wp_X0_leavesWanted_48 (fun x2 x3 k0 S => wp_X0_leavesWanted_49 post x2 x3 k0 S) post x2 x3 S38) ∧
 (¬ r38 = 0 →
 wp_X0_leavesWanted_44 (fun x2 x3 k0 S => wp_X0_leavesWanted_49 post x2 x3 k0 S) post x2 x3 S38)))))))))))))))
def wp_X0_leavesGiven_12 (post : Int64 → CS → Prop) (x4 : Int32) (S : CS) : Prop :=
 wp_X4_leavesOf S x4 (0 : Int32) (fun r19 S19 =>
 post r19 S19)
def wp_X0_leavesGiven_45 (post : Int64 → CS → Prop) (x2 : Int32) (x3 : Int32) (k0 : Int32) (S : CS) : Prop :=
 ((k0 = 0 →
 post (0 : Int64) S) ∧
 (¬ k0 = 0 →
 wp_X4_leavesOf S x2 x3 (fun r58 S58 =>
 post r58 S58)))
def wp_X0_leavesGiven_44 (K45 : Int32 → Int32 → Int32 → CS → Prop) (post : Int64 → CS → Prop) (x2 : Int32) (x3 : Int32) (S : CS) : Prop :=
 K45 x2 x3 (0 : Int32) S
def wp_X0_leavesGiven (S : CS) (x1 : Int32) (x2 : Int32) (x3 : Int32) (x4 : Int32) (post : Int64 → CS → Prop) : Prop :=
 ((x1 = (7 : Int32) →
 wp_X0_leavesGiven_12 post x4 S) ∧
 (¬ x1 = (7 : Int32) →
 ((¬ x1 = (8 : Int32) →
 ((¬ x1 = (3 : Int32) →
 wp_X0_leavesGiven_44 (fun x2 x3 k0 S => wp_X0_leavesGiven_45 post x2 x3 k0 S) post x2 x3 S) ∧
 (x1 = (3 : Int32) →
 wp_X4_isWithin S x2 x3 (fun r34 S34 =>
 ((¬ r34 = 0 →
 wp_X0_leavesGiven_44 (fun x2 x3 k0 S => wp_X0_leavesGiven_45 post x2 x3 k0 S) post x2 x3 S34) ∧
 (r34 = 0 →
 wp_X0_leavesGiven_45 post x2 x3 (1 : Int32) S34)))))) ∧
 (x1 = (8 : Int32) →
 wp_X0_leavesGiven_12 post x4 S))))
def wp_X4_isSole (S : CS) (x1 : Int32) (post : Int32 → CS → Prop) : Prop :=
 wp_X4_has S x1 (fun r2 S2 =>
 ((r2 = 0 →
 post (0 : Int32) S2) ∧
 (¬ r2 = 0 →
 vp_in x1 16 ∧ ((¬ (gC_sorts S2 (x1).toNatClampNeg) = (2 : Int32) →
 post (0 : Int32) S2) ∧
 ((gC_sorts S2 (x1).toNatClampNeg) = (2 : Int32) →
 post (1 : Int32) S2)))))
def wp_X0_leavesTaken_32 (post : Int64 → CS → Prop) (x2 : Int32) (x3 : Int32) (k0 : Int32) (S : CS) : Prop :=
 ((k0 = 0 →
 post (0 : Int64) S) ∧
 (¬ k0 = 0 →
 wp_X4_leavesOf S x2 x3 (fun r45 S45 =>
 post r45 S45)))
def wp_X0_leavesTaken_27 (K32 : Int32 → Int32 → Int32 → CS → Prop) (post : Int64 → CS → Prop) (x2 : Int32) (x3 : Int32) (S : CS) : Prop :=
 K32 x2 x3 (1 : Int32) S
def wp_X0_leavesTaken_31 (K32 : Int32 → Int32 → Int32 → CS → Prop) (post : Int64 → CS → Prop) (x2 : Int32) (x3 : Int32) (S : CS) : Prop :=
 K32 x2 x3 (0 : Int32) S
def wp_X0_leavesTaken (S : CS) (x1 : Int32) (x2 : Int32) (x3 : Int32) (post : Int64 → CS → Prop) : Prop :=
 ((x1 = (2 : Int32) →
 wp_X0_leavesTaken_27 (fun x2 x3 k0 S => wp_X0_leavesTaken_32 post x2 x3 k0 S) post x2 x3 S) ∧
 (¬ x1 = (2 : Int32) →
 ((x1 = (5 : Int32) →
 wp_X0_leavesTaken_27 (fun x2 x3 k0 S => wp_X0_leavesTaken_32 post x2 x3 k0 S) post x2 x3 S) ∧
 (¬ x1 = (5 : Int32) →
 ((¬ x1 = (8 : Int32) →
 wp_X0_leavesTaken_31 (fun x2 x3 k0 S => wp_X0_leavesTaken_32 post x2 x3 k0 S) post x2 x3 S) ∧
 (x1 = (8 : Int32) →
 wp_X4_isSole S x2 (fun r21 S21 =>
 ((r21 = 0 →
 wp_X0_leavesTaken_31 (fun x2 x3 k0 S => wp_X0_leavesTaken_32 post x2 x3 k0 S) post x2 x3 S21) ∧
 (¬ r21 = 0 →
 wp_X0_leavesTaken_27 (fun x2 x3 k0 S => wp_X0_leavesTaken_32 post x2 x3 k0 S) post x2 x3 S21)))))))))
def wp_X0_isOnPlace (S : CS) (x0 : Int32) (post : Int32 → CS → Prop) : Prop :=
 ((x0 = (1 : Int32) →
 post (1 : Int32) S) ∧
 (¬ x0 = (1 : Int32) →
 ((x0 = (2 : Int32) →
 post (1 : Int32) S) ∧
 (¬ x0 = (2 : Int32) →
 ((x0 = (3 : Int32) →
 post (1 : Int32) S) ∧
 (¬ x0 = (3 : Int32) →
 ((x0 = (4 : Int32) →
 post (1 : Int32) S) ∧
 (¬ x0 = (4 : Int32) →
 ((¬ x0 = (7 : Int32) →
 post (0 : Int32) S) ∧
 (x0 = (7 : Int32) →
 post (1 : Int32) S))))))))))
def wp_X4_isReference (S : CS) (x1 : Int32) (post : Int32 → CS → Prop) : Prop :=
 wp_X4_has S x1 (fun r2 S2 =>
 ((r2 = 0 →
 post (0 : Int32) S2) ∧
 (¬ r2 = 0 →
 vp_in x1 16 ∧ (((gC_sorts S2 (x1).toNatClampNeg) = 0 →
 post (0 : Int32) S2) ∧
 (¬ (gC_sorts S2 (x1).toNatClampNeg) = 0 →
 post (1 : Int32) S2)))))
def wp_X4_goesThrough (S : CS) (x1 : Int32) (x2 : Int32) (post : Int32 → CS → Prop) : Prop :=
 wp_X4_isReference S x1 (fun r2 S2 =>
 ((r2 = 0 →
 post (0 : Int32) S2) ∧
 (¬ r2 = 0 →
 wp_X3_firstDigit S2 x2 (fun r9 S9 =>
 ((¬ r9 = (5 : Int32) →
 post (0 : Int32) S9) ∧
 (r9 = (5 : Int32) →
 post (1 : Int32) S9))))))
def wp_X0_referenceUsed_24 (post : Int32 → CS → Prop) (x1 : Int32) (x2 : Int32) (k0 : Int32) (S : CS) : Prop :=
 ((¬ k0 = 0 →
 post x2 S) ∧
 (k0 = 0 →
 ((¬ x1 = (8 : Int32) →
 post (-1 : Int32) S) ∧
 (x1 = (8 : Int32) →
 post x2 S))))
def wp_X0_referenceUsed_23 (K24 : Int32 → Int32 → Int32 → CS → Prop) (post : Int32 → CS → Prop) (x1 : Int32) (x2 : Int32) (S : CS) : Prop :=
 K24 x1 x2 (0 : Int32) S
def wp_X0_referenceUsed (S : CS) (x1 : Int32) (x2 : Int32) (x3 : Int32) (post : Int32 → CS → Prop) : Prop :=
 wp_X0_isOnPlace S x1 (fun r1 S1 =>
 ((r1 = 0 →
 wp_X0_referenceUsed_23 (fun x1 x2 k0 S => wp_X0_referenceUsed_24 post x1 x2 k0 S) post x1 x2 S1) ∧
 (¬ r1 = 0 →
 wp_X4_goesThrough S1 x2 x3 (fun r13 S13 =>
 ((r13 = 0 →
 wp_X0_referenceUsed_23 (fun x1 x2 k0 S => wp_X0_referenceUsed_24 post x1 x2 k0 S) post x1 x2 S13) ∧
 (¬ r13 = 0 →
 wp_X0_referenceUsed_24 post x1 x2 (1 : Int32) S13))))))
def wp_X0_referenceRenewed (S : CS) (x1 : Int32) (x2 : Int32) (x3 : Int32) (post : Int32 → CS → Prop) : Prop :=
 ((¬ x1 = (5 : Int32) →
 ((x1 = (7 : Int32) →
 post x3 S) ∧
 (¬ x1 = (7 : Int32) →
 ((¬ x1 = (8 : Int32) →
 post (-1 : Int32) S) ∧
 (x1 = (8 : Int32) →
 post x3 S))))) ∧
 (x1 = (5 : Int32) →
 wp_X4_isReference S x2 (fun r10 S10 =>
 ((r10 = 0 →
 post (-1 : Int32) S10) ∧
 (¬ r10 = 0 →
 post x2 S10)))))
def wp_X0_lendsBeside (S : CS) (x1 : Int32) (post : Int32 → CS → Prop) : Prop :=
 vp_in x1 150 ∧ ((¬ (gC_kinds S (x1).toNatClampNeg) = (7 : Int32) →
 wp_X6_answer S (0 : Int32) (fun r20 S20 =>
 post ((gC_lends S) - r20) S20)) ∧
 ((gC_kinds S (x1).toNatClampNeg) = (7 : Int32) →
 wp_X6_answer S (1 : Int32) (fun r20 S20 =>
 post ((gC_lends S) - r20) S20)))
def wp_X0_put_17 (post : CS → Prop) (x1 : Int32) (x2 : Int32) (x3 : Int32) (x4 : Int32) (x5 : Int32) (k0 : Int32) (k1 : Int32) (S : CS) : Prop :=
 wp_X6_answer S k0 (fun r17 S17 =>
 ∀ S_1 : CS, S_1 = sC_lends S17 (k1 + r17) → vp_in x1 150 ∧ ∀ S_2 : CS, S_2 = sC_kinds S_1 (upd (gC_kinds S_1) (x1).toNatClampNeg x2) → vp_in x1 150 ∧ ∀ S_3 : CS, S_3 = sC_places S_2 (upd (gC_places S_2) (x1).toNatClampNeg x3) → vp_in x1 150 ∧ ∀ S_4 : CS, S_4 = sC_paths S_3 (upd (gC_paths S_3) (x1).toNatClampNeg x4) → vp_in x1 150 ∧ ∀ S_5 : CS, S_5 = sC_recvs S_4 (upd (gC_recvs S_4) (x1).toNatClampNeg x5) → wp_X0_leavesWanted S_5 x2 x3 x4 (fun r64 S64 =>
 vp_in x1 150 ∧ ∀ S_6 : CS, S_6 = sC_wanted S64 (vp_updL (gC_wanted S64) (x1).toNatClampNeg r64) → wp_X0_leavesGiven S_6 x2 x3 x4 x5 (fun r80 S80 =>
 vp_in x1 150 ∧ ∀ S_7 : CS, S_7 = sC_given S80 (vp_updL (gC_given S80) (x1).toNatClampNeg r80) → wp_X0_leavesTaken S_7 x2 x3 x4 (fun r94 S94 =>
 vp_in x1 150 ∧ ∀ S_8 : CS, S_8 = sC_taken S94 (vp_updL (gC_taken S94) (x1).toNatClampNeg r94) → wp_X0_referenceUsed S_8 x2 x3 x4 (fun r108 S108 =>
 vp_in x1 150 ∧ ∀ S_9 : CS, S_9 = sC_usedR S108 (upd (gC_usedR S108) (x1).toNatClampNeg r108) → wp_X0_referenceRenewed S_9 x2 x3 x5 (fun r122 S122 =>
 vp_in x1 150 ∧ ∀ S_10 : CS, S_10 = sC_renR S122 (upd (gC_renR S122) (x1).toNatClampNeg r122) → post S_10))))))
def wp_X0_put (S : CS) (x1 : Int32) (x2 : Int32) (x3 : Int32) (x4 : Int32) (x5 : Int32) (post : CS → Prop) : Prop :=
 wp_X0_lendsBeside S x1 (fun r3 S3 =>
 ((¬ x2 = (7 : Int32) →
 wp_X0_put_17 post x1 x2 x3 x4 x5 (0 : Int32) r3 S3) ∧
 (x2 = (7 : Int32) →
 wp_X0_put_17 post x1 x2 x3 x4 x5 (1 : Int32) r3 S3)))
def wp_X6_put (S : CS) (x1 : Int32) (x2 : Int32) (x3 : Int32) (x4 : Int32) (x5 : Int32) (post : Int32 → CS → Prop) : Prop :=
 wp_X0_put S x1 x2 x3 x4 x5 (fun S11 =>
 wp_X6_forget S11 (fun S15 =>
 post (1 : Int32) S15))
def wp_X6_isPoint (S : CS) (x0 : Int32) (post : Int32 → CS → Prop) : Prop :=
 ((x0 < 0 →
 post (0 : Int32) S) ∧
 (¬ x0 < 0 →
 (((150 : Int32) ≤ x0 →
 post (0 : Int32) S) ∧
 (¬ (150 : Int32) ≤ x0 →
 post (1 : Int32) S))))
def ws_X3_isPath_17 (rec_ : Int32 → Int32 → CS → Prop) (post : Int32 → CS → Prop) (x1 : Int32) (x2 : Int32) (S : CS) : Prop :=
 (((4 : Int32) ≤ x2 →
 post (1 : Int32) S) ∧
 (¬ (4 : Int32) ≤ x2 →
 ((x1 = 0 →
 post (1 : Int32) S) ∧
 (¬ x1 = 0 →
 wp_X3_firstDigit S x1 (fun r27 S27 =>
 ((r27 = 0 →
 post (0 : Int32) S27) ∧
 (¬ r27 = 0 →
 ((r27 ≤ (6 : Int32) →
 wp_X3_behindFirst S27 x1 (fun r44 S44 =>
 ∀ x2_1 : Int32, x2_1 = x2 + (1 : Int32) → rec_ r44 x2_1 S44)) ∧
 (¬ r27 ≤ (6 : Int32) →
 post (0 : Int32) S27)))))))))
def wp_X3_isPath_17 (post : Int32 → CS → Prop) : Nat → Int32 → Int32 → CS → Prop
  | 0 => fun _ _ _ => False
  | n + 1 => ws_X3_isPath_17 (wp_X3_isPath_17 post n) post
def wp_X3_isPath (S : CS) (x0 : Int32) (post : Int32 → CS → Prop) : Prop :=
 ((x0 < 0 →
 post (0 : Int32) S) ∧
 (¬ x0 < 0 →
 ((x0 < (4096 : Int32) →
 (∃ n_, wp_X3_isPath_17 post n_ x0 (0 : Int32) S)) ∧
 (¬ x0 < (4096 : Int32) →
 post (0 : Int32) S))))
def wp_X4_isPlace (S : CS) (x1 : Int32) (x2 : Int32) (post : Int32 → CS → Prop) : Prop :=
 wp_X4_has S x1 (fun r2 S2 =>
 ((r2 = 0 →
 post (0 : Int32) S2) ∧
 (¬ r2 = 0 →
 wp_X3_isPath S2 x2 (fun r9 S9 =>
 ((¬ r9 = 0 →
 ((¬ x2 = 0 →
 wp_X4_isReference S9 x1 (fun r25 S25 =>
 ((r25 = 0 →
 wp_X4_hasParts S25 x1 (fun r47 S47 =>
 ((r47 = 0 →
 post (1 : Int32) S47) ∧
 (¬ r47 = 0 →
 wp_X3_firstDigit S47 x2 (fun r54 S54 =>
 vp_in x1 16 ∧ (((gC_lcs S54 (x1).toNatClampNeg) < r54 →
 post (0 : Int32) S54) ∧
 (¬ (gC_lcs S54 (x1).toNatClampNeg) < r54 →
 post (1 : Int32) S54))))))) ∧
 (¬ r25 = 0 →
 wp_X3_firstDigit S25 x2 (fun r32 S32 =>
 ((¬ r32 = (5 : Int32) →
 post (0 : Int32) S32) ∧
 (r32 = (5 : Int32) →
 post (1 : Int32) S32))))))) ∧
 (x2 = 0 →
 post (1 : Int32) S9))) ∧
 (r9 = 0 →
 post (0 : Int32) S9))))))
def wp_X4_mayAct (S : CS) (x1 : Int32) (x2 : Int32) (x3 : Int32) (post : Int32 → CS → Prop) : Prop :=
 wp_X4_isPlace S x2 x3 (fun r3 S3 =>
 ((¬ r3 = 0 →
 ((¬ x1 = (2 : Int32) →
 wp_X4_isReference S3 x2 (fun r41 S41 =>
 ((¬ r41 = 0 →
 ((x3 = 0 →
 post (0 : Int32) S41) ∧
 (¬ x3 = 0 →
 ((x1 = (1 : Int32) →
 post (1 : Int32) S41) ∧
 (¬ x1 = (1 : Int32) →
 wp_X4_isSole S41 x2 (fun r60 S60 =>
 ((r60 = 0 →
 post (0 : Int32) S60) ∧
 (¬ r60 = 0 →
 post (1 : Int32) S60)))))))) ∧
 (r41 = 0 →
 post (1 : Int32) S41)))) ∧
 (x1 = (2 : Int32) →
 wp_X4_isReference S3 x2 (fun r18 S18 =>
 ((¬ r18 = 0 →
 post (0 : Int32) S18) ∧
 (r18 = 0 →
 wp_X4_isWithin S18 x2 x3 (fun r27 S27 =>
 ((¬ r27 = 0 →
 post (0 : Int32) S27) ∧
 (r27 = 0 →
 post (1 : Int32) S27))))))))) ∧
 (r3 = 0 →
 post (0 : Int32) S3)))
def wp_X6_act_44 (post : Int32 → CS → Prop) (x1 : Int32) (x2 : Int32) (x3 : Int32) (S : CS) : Prop :=
 wp_X4_has S x3 (fun r49 S49 =>
 ((r49 = 0 →
 post (-1 : Int32) S49) ∧
 (¬ r49 = 0 →
 wp_X6_put S49 x1 x2 x3 (0 : Int32) (-1 : Int32) (fun r61 S61 =>
 post r61 S61))))
def wp_X6_act (S : CS) (x1 : Int32) (x2 : Int32) (x3 : Int32) (x4 : Int32) (post : Int32 → CS → Prop) : Prop :=
 wp_X6_isPoint S x1 (fun r1 S1 =>
 ((r1 = 0 →
 post (-1 : Int32) S1) ∧
 (¬ r1 = 0 →
 ((x2 < 0 →
 post (-1 : Int32) S1) ∧
 (¬ x2 < 0 →
 ((x2 ≤ (6 : Int32) →
 ((¬ x2 = 0 →
 ((x2 = (5 : Int32) →
 wp_X6_act_44 post x1 x2 x3 S1) ∧
 (¬ x2 = (5 : Int32) →
 ((¬ x2 = (6 : Int32) →
 wp_X4_mayAct S1 x2 x3 x4 (fun r77 S77 =>
 ((r77 = 0 →
 post (-1 : Int32) S77) ∧
 (¬ r77 = 0 →
 wp_X6_put S77 x1 x2 x3 x4 (-1 : Int32) (fun r90 S90 =>
 post r90 S90))))) ∧
 (x2 = (6 : Int32) →
 wp_X6_act_44 post x1 x2 x3 S1))))) ∧
 (x2 = 0 →
 wp_X6_put S1 x1 (0 : Int32) (0 : Int32) (0 : Int32) (-1 : Int32) (fun r29 S29 =>
 post r29 S29)))) ∧
 (¬ x2 ≤ (6 : Int32) →
 post (-1 : Int32) S1)))))))
def wp_X4_isShared (S : CS) (x1 : Int32) (post : Int32 → CS → Prop) : Prop :=
 wp_X4_has S x1 (fun r2 S2 =>
 ((r2 = 0 →
 post (0 : Int32) S2) ∧
 (¬ r2 = 0 →
 vp_in x1 16 ∧ ((¬ (gC_sorts S2 (x1).toNatClampNeg) = (1 : Int32) →
 post (0 : Int32) S2) ∧
 ((gC_sorts S2 (x1).toNatClampNeg) = (1 : Int32) →
 post (1 : Int32) S2)))))
def wp_X4_mayLend (S : CS) (x1 : Int32) (x2 : Int32) (x3 : Int32) (post : Int32 → CS → Prop) : Prop :=
 wp_X4_isReference S x1 (fun r2 S2 =>
 ((r2 = 0 →
 post (0 : Int32) S2) ∧
 (¬ r2 = 0 →
 wp_X4_isPlace S2 x2 x3 (fun r11 S11 =>
 ((¬ r11 = 0 →
 wp_X4_isReference S11 x2 (fun r21 S21 =>
 ((¬ r21 = 0 →
 ((x3 = 0 →
 post (0 : Int32) S21) ∧
 (¬ x3 = 0 →
 wp_X4_isShared S21 x1 (fun r35 S35 =>
 ((¬ r35 = 0 →
 post (1 : Int32) S35) ∧
 (r35 = 0 →
 wp_X4_isSole S35 x2 (fun r43 S43 =>
 ((r43 = 0 →
 post (0 : Int32) S43) ∧
 (¬ r43 = 0 →
 post (1 : Int32) S43))))))))) ∧
 (r21 = 0 →
 post (1 : Int32) S21)))) ∧
 (r11 = 0 →
 post (0 : Int32) S11))))))
def wp_X6_lend (S : CS) (x1 : Int32) (x2 : Int32) (x3 : Int32) (x4 : Int32) (post : Int32 → CS → Prop) : Prop :=
 wp_X6_isPoint S x1 (fun r1 S1 =>
 ((r1 = 0 →
 post (-1 : Int32) S1) ∧
 (¬ r1 = 0 →
 wp_X4_mayLend S1 x2 x3 x4 (fun r15 S15 =>
 ((r15 = 0 →
 post (-1 : Int32) S15) ∧
 (¬ r15 = 0 →
 wp_X0_lendsBeside S15 x1 (fun r26 S26 =>
 ((r26 < (60 : Int32) →
 wp_X6_put S26 x1 (7 : Int32) x3 x4 x2 (fun r44 S44 =>
 post r44 S44)) ∧
 (¬ r26 < (60 : Int32) →
 post (-1 : Int32) S26)))))))))
def wp_X4_mayCopy (S : CS) (x1 : Int32) (x2 : Int32) (post : Int32 → CS → Prop) : Prop :=
 ((x1 = x2 →
 post (0 : Int32) S) ∧
 (¬ x1 = x2 →
 wp_X4_isReference S x1 (fun r7 S7 =>
 ((r7 = 0 →
 post (0 : Int32) S7) ∧
 (¬ r7 = 0 →
 wp_X4_isReference S7 x2 (fun r15 S15 =>
 ((r15 = 0 →
 post (0 : Int32) S15) ∧
 (¬ r15 = 0 →
 vp_in x1 16 ∧ vp_in x2 16 ∧ ((¬ (gC_sorts S15 (x1).toNatClampNeg) = (gC_sorts S15 (x2).toNatClampNeg) →
 post (0 : Int32) S15) ∧
 ((gC_sorts S15 (x1).toNatClampNeg) = (gC_sorts S15 (x2).toNatClampNeg) →
 post (1 : Int32) S15))))))))))
def wp_X6_copy (S : CS) (x1 : Int32) (x2 : Int32) (x3 : Int32) (post : Int32 → CS → Prop) : Prop :=
 wp_X6_isPoint S x1 (fun r1 S1 =>
 ((r1 = 0 →
 post (-1 : Int32) S1) ∧
 (¬ r1 = 0 →
 wp_X4_mayCopy S1 x2 x3 (fun r13 S13 =>
 ((¬ r13 = 0 →
 wp_X6_put S13 x1 (8 : Int32) x3 (0 : Int32) x2 (fun r28 S28 =>
 post r28 S28)) ∧
 (r13 = 0 →
 post (-1 : Int32) S13))))))
def wp_X5_nextOf (S : CS) (x1 : Int32) (x2 : Int32) (post : Int32 → CS → Prop) : Prop :=
 vp_in ((x1 * (4 : Int32)) + x2) 600 ∧ post (gC_nexts S ((x1 * (4 : Int32)) + x2).toNatClampNeg) S
def ws_X5_indexOf_2 (rec_ : Int32 → Int32 → Int32 → CS → Prop) (post : Int32 → CS → Prop) (x1 : Int32) (x2 : Int32) (x3 : Int32) (S : CS) : Prop :=
 vp_in x1 150 ∧ (((gC_ncnt S (x1).toNatClampNeg) ≤ x3 →
 post (-1 : Int32) S) ∧
 (¬ (gC_ncnt S (x1).toNatClampNeg) ≤ x3 →
 wp_X5_nextOf S x1 x3 (fun r15 S15 =>
 ((¬ r15 = x2 →
 ∀ x3_1 : Int32, x3_1 = x3 + (1 : Int32) → rec_ x1 x2 x3_1 S15) ∧
 (r15 = x2 →
 post x3 S15)))))
def wp_X5_indexOf_2 (post : Int32 → CS → Prop) : Nat → Int32 → Int32 → Int32 → CS → Prop
  | 0 => fun _ _ _ _ => False
  | n + 1 => ws_X5_indexOf_2 (wp_X5_indexOf_2 post n) post
def wp_X5_indexOf (S : CS) (x1 : Int32) (x2 : Int32) (post : Int32 → CS → Prop) : Prop :=
 (∃ n_, wp_X5_indexOf_2 post n_ x1 x2 (0 : Int32) S)
def wp_X5_remove (S : CS) (x1 : Int32) (x2 : Int32) (post : CS → Prop) : Prop :=
 wp_X5_indexOf S x1 x2 (fun r3 S3 =>
 ((r3 = (-1 : Int32) →
 post S3) ∧
 (¬ r3 = (-1 : Int32) →
 vp_in x1 150 ∧ vp_in x1 150 ∧ ∀ S_1 : CS, S_1 = sC_ncnt S3 (upd (gC_ncnt S3) (x1).toNatClampNeg ((gC_ncnt S3 (x1).toNatClampNeg) - (1 : Int32))) → vp_in x1 150 ∧ vp_in ((x1 * (4 : Int32)) + (gC_ncnt S_1 (x1).toNatClampNeg)) 600 ∧ vp_in ((x1 * (4 : Int32)) + r3) 600 ∧ ∀ S_2 : CS, S_2 = sC_nexts S_1 (upd (gC_nexts S_1) ((x1 * (4 : Int32)) + r3).toNatClampNeg (gC_nexts S_1 ((x1 * (4 : Int32)) + (gC_ncnt S_1 (x1).toNatClampNeg)).toNatClampNeg)) → post S_2)))
def wp_X5_add (S : CS) (x1 : Int32) (x2 : Int32) (post : Int32 → CS → Prop) : Prop :=
 wp_X5_indexOf S x1 x2 (fun r3 S3 =>
 ((r3 = (-1 : Int32) →
 vp_in x1 150 ∧ (((gC_ncnt S3 (x1).toNatClampNeg) < (4 : Int32) →
 vp_in x1 150 ∧ vp_in ((x1 * (4 : Int32)) + (gC_ncnt S3 (x1).toNatClampNeg)) 600 ∧ ∀ S_1 : CS, S_1 = sC_nexts S3 (upd (gC_nexts S3) ((x1 * (4 : Int32)) + (gC_ncnt S3 (x1).toNatClampNeg)).toNatClampNeg x2) → vp_in x1 150 ∧ vp_in x1 150 ∧ ∀ S_2 : CS, S_2 = sC_ncnt S_1 (upd (gC_ncnt S_1) (x1).toNatClampNeg ((gC_ncnt S_1 (x1).toNatClampNeg) + (1 : Int32))) → post (1 : Int32) S_2) ∧
 (¬ (gC_ncnt S3 (x1).toNatClampNeg) < (4 : Int32) →
 post (0 : Int32) S3))) ∧
 (¬ r3 = (-1 : Int32) →
 post (1 : Int32) S3)))
def wp_X6_next_34 (post : Int32 → CS → Prop) (x1 : Int32) (x2 : Int32) (x3 : Int32) (S : CS) : Prop :=
 ((¬ x3 = 0 →
 wp_X6_forget S (fun S48 =>
 post (1 : Int32) S48)) ∧
 (x3 = 0 →
 wp_X5_remove S x1 x2 (fun S44 =>
 wp_X6_forget S44 (fun S48 =>
 post (1 : Int32) S48))))
def wp_X6_next (S : CS) (x1 : Int32) (x2 : Int32) (x3 : Int32) (post : Int32 → CS → Prop) : Prop :=
 wp_X6_isPoint S x1 (fun r1 S1 =>
 ((r1 = 0 →
 post (-1 : Int32) S1) ∧
 (¬ r1 = 0 →
 wp_X6_isPoint S1 x2 (fun r8 S8 =>
 ((¬ r8 = 0 →
 ((x3 = 0 →
 wp_X6_next_34 post x1 x2 x3 S8) ∧
 (¬ x3 = 0 →
 wp_X5_add S8 x1 x2 (fun r26 S26 =>
 ((¬ r26 = 0 →
 wp_X6_next_34 post x1 x2 x3 S26) ∧
 (r26 = 0 →
 post (-1 : Int32) S26)))))) ∧
 (r8 = 0 →
 post (-1 : Int32) S8))))))
def wp_X5_walk_145 (K31 : Int32 → Int32 → CS → Prop) (post : CS → Prop) (x1 : Int32) (x2 : Int32) (S : CS) : Prop :=
 ∀ x2_1 : Int32, x2_1 = x2 + (1 : Int32) → K31 x1 x2_1 S
def ws_X5_walk_31 (rec_ : Int32 → Int32 → CS → Prop) (post : CS → Prop) (x1 : Int32) (x2 : Int32) (S : CS) : Prop :=
 (((750 : Int32) ≤ x2 →
 post S) ∧
 (¬ (750 : Int32) ≤ x2 →
 ((x1 ≤ 0 →
 post S) ∧
 (¬ x1 ≤ 0 →
 vp_in (x1 - (1 : Int32)) 150 ∧ ∀ x3_1 : Int32, x3_1 = gC_opn S (x1 - (1 : Int32)).toNatClampNeg → vp_in x3_1 150 ∧ vp_in x3_1 150 ∧ (((gC_tried S (x3_1).toNatClampNeg) < (gC_ncnt S (x3_1).toNatClampNeg) →
 vp_in x3_1 150 ∧ wp_X5_nextOf S x3_1 (gC_tried S (x3_1).toNatClampNeg) (fun r100 S100 =>
 vp_in x3_1 150 ∧ vp_in x3_1 150 ∧ ∀ S_2 : CS, S_2 = sC_tried S100 (upd (gC_tried S100) (x3_1).toNatClampNeg ((gC_tried S100 (x3_1).toNatClampNeg) + (1 : Int32))) → vp_in r100 150 ∧ ((¬ (gC_tried S_2 (r100).toNatClampNeg) = (-1 : Int32) →
 wp_X5_walk_145 rec_ post x1 x2 S_2) ∧
 ((gC_tried S_2 (r100).toNatClampNeg) = (-1 : Int32) →
 vp_in r100 150 ∧ ∀ S_3 : CS, S_3 = sC_tried S_2 (upd (gC_tried S_2) (r100).toNatClampNeg (0 : Int32)) → vp_in x1 150 ∧ ∀ S_4 : CS, S_4 = sC_opn S_3 (upd (gC_opn S_3) (x1).toNatClampNeg r100) → ∀ x1_5 : Int32, x1_5 = x1 + (1 : Int32) → wp_X5_walk_145 rec_ post x1_5 x2 S_4)))) ∧
 (¬ (gC_tried S (x3_1).toNatClampNeg) < (gC_ncnt S (x3_1).toNatClampNeg) →
 vp_in (gC_reached S) 150 ∧ ∀ S_6 : CS, S_6 = sC_order S (upd (gC_order S) (gC_reached S).toNatClampNeg x3_1) → ∀ S_7 : CS, S_7 = sC_reached S_6 ((gC_reached S_6) + (1 : Int32)) → ∀ x1_8 : Int32, x1_8 = x1 + (-1 : Int32) → wp_X5_walk_145 rec_ post x1_8 x2 S_7))))))
def wp_X5_walk_31 (post : CS → Prop) : Nat → Int32 → Int32 → CS → Prop
  | 0 => fun _ _ _ => False
  | n + 1 => ws_X5_walk_31 (wp_X5_walk_31 post n) post
def wp_X5_walk (S : CS) (post : CS → Prop) : Prop :=
 ∀ S_1 : CS, S_1 = sC_tried S (fl_I 150 (-1 : Int32) (gC_tried S)) → ∀ S_2 : CS, S_2 = sC_reached S_1 (0 : Int32) → vp_in (0 : Int32) 150 ∧ ∀ S_3 : CS, S_3 = sC_opn S_2 (upd (gC_opn S_2) ((0 : Int32)).toNatClampNeg (0 : Int32)) → vp_in (0 : Int32) 150 ∧ ∀ S_4 : CS, S_4 = sC_tried S_3 (upd (gC_tried S_3) ((0 : Int32)).toNatClampNeg (0 : Int32)) → (∃ n_, wp_X5_walk_31 post n_ (1 : Int32) (0 : Int32) S_4)
def wp_X6_knowWays (S : CS) (post : CS → Prop) : Prop :=
 ((¬ (gC_wK S) = 0 →
 post S) ∧
 ((gC_wK S) = 0 →
 wp_X5_walk S (fun S11 =>
 ∀ S_1 : CS, S_1 = sC_wK S11 (1 : Int32) → post S_1)))
def wp_X4_begun (S : CS) (post : Int64 → CS → Prop) : Prop :=
 post (gC_begun S) S
def wp_X5_size (S : CS) (post : Int32 → CS → Prop) : Prop :=
 post (gC_reached S) S
def wp_X5_fromTheBeginning (S : CS) (x1 : Int32) (post : Int32 → CS → Prop) : Prop :=
 vp_in (((gC_reached S) - (1 : Int32)) - x1) 150 ∧ post (gC_order S (((gC_reached S) - (1 : Int32)) - x1).toNatClampNeg) S
def wp_X5_nextCount (S : CS) (x1 : Int32) (post : Int32 → CS → Prop) : Prop :=
 vp_in x1 150 ∧ post (gC_ncnt S (x1).toNatClampNeg) S
def wp_X0_takenAt (S : CS) (x1 : Int32) (post : Int64 → CS → Prop) : Prop :=
 vp_in x1 150 ∧ post (gC_taken S (x1).toNatClampNeg) S
def wp_X0_givenAt (S : CS) (x1 : Int32) (post : Int64 → CS → Prop) : Prop :=
 vp_in x1 150 ∧ post (gC_given S (x1).toNatClampNeg) S
def wp_X1_handOn_153 (K65 : Int32 → Int64 → Int64 → Int32 → Int32 → CS → Prop) (post : Int32 → CS → Prop) (x1 : Int32) (x2 : Int64) (x4 : Int64) (x6 : Int32) (x7 : Int32) (S : CS) : Prop :=
 ∀ x7_1 : Int32, x7_1 = x7 + (1 : Int32) → K65 x1 x2 x4 x6 x7_1 S
def wp_X1_handOn_127 (K153 : Int32 → Int64 → Int64 → Int32 → Int32 → CS → Prop) (post : Int32 → CS → Prop) (x1 : Int32) (x2 : Int64) (x4 : Int64) (x7 : Int32) (x8 : Int32) (S : CS) : Prop :=
 vp_in x8 150 ∧ vp_in x8 150 ∧ ∀ S_1 : CS, S_1 = sC_onAll S (vp_updL (gC_onAll S) (x8).toNatClampNeg ((gC_onAll S (x8).toNatClampNeg) &&& x2)) → vp_in x8 150 ∧ vp_in x8 150 ∧ ∀ S_2 : CS, S_2 = sC_onSome S_1 (vp_updL (gC_onSome S_1) (x8).toNatClampNeg ((gC_onSome S_1 (x8).toNatClampNeg) ||| x4)) → K153 x1 x2 x4 (1 : Int32) x7 S_2
def ws_X1_handOn_65 (rec_ : Int32 → Int64 → Int64 → Int32 → Int32 → CS → Prop) (post : Int32 → CS → Prop) (x1 : Int32) (x2 : Int64) (x4 : Int64) (x6 : Int32) (x7 : Int32) (S : CS) : Prop :=
 wp_X5_nextCount S x1 (fun r72 S72 =>
 ((r72 ≤ x7 →
 isb x6 ∧ post x6 S72) ∧
 (¬ r72 ≤ x7 →
 wp_X5_nextOf S72 x1 x7 (fun r85 S85 =>
 vp_in r85 150 ∧ ((¬ (lg_cmp ((gC_onAll S85 (r85).toNatClampNeg) &&& (x2 ^^^ (-1 : Int64))) (0 : Int64)) = 0 →
 wp_X1_handOn_127 (fun x1 x2 x4 x6 x7 S => wp_X1_handOn_153 rec_ post x1 x2 x4 x6 x7 S) post x1 x2 x4 x7 r85 S85) ∧
 ((lg_cmp ((gC_onAll S85 (r85).toNatClampNeg) &&& (x2 ^^^ (-1 : Int64))) (0 : Int64)) = 0 →
 vp_in r85 150 ∧ (((lg_cmp (x4 &&& ((gC_onSome S85 (r85).toNatClampNeg) ^^^ (-1 : Int64))) (0 : Int64)) = 0 →
 wp_X1_handOn_153 rec_ post x1 x2 x4 x6 x7 S85) ∧
 (¬ (lg_cmp (x4 &&& ((gC_onSome S85 (r85).toNatClampNeg) ^^^ (-1 : Int64))) (0 : Int64)) = 0 →
 wp_X1_handOn_127 (fun x1 x2 x4 x6 x7 S => wp_X1_handOn_153 rec_ post x1 x2 x4 x6 x7 S) post x1 x2 x4 x7 r85 S85))))))))
def wp_X1_handOn_65 (post : Int32 → CS → Prop) : Nat → Int32 → Int64 → Int64 → Int32 → Int32 → CS → Prop
  | 0 => fun _ _ _ _ _ _ => False
  | n + 1 => ws_X1_handOn_65 (wp_X1_handOn_65 post n) post
def wp_X1_handOn (S : CS) (x1 : Int32) (post : Int32 → CS → Prop) : Prop :=
 vp_in x1 150 ∧ wp_X0_takenAt S x1 (fun r11 S11 =>
 wp_X0_givenAt S11 x1 (fun r24 S24 =>
 ∀ x2_1 : Int64, x2_1 = ((gC_onAll S (x1).toNatClampNeg) &&& (r11 ^^^ (-1 : Int64))) ||| r24 → vp_in x1 150 ∧ wp_X0_takenAt S24 x1 (fun r40 S40 =>
 wp_X0_givenAt S40 x1 (fun r53 S53 =>
 ∀ x4_2 : Int64, x4_2 = ((gC_onSome S24 (x1).toNatClampNeg) &&& (r40 ^^^ (-1 : Int64))) ||| r53 → (∃ n_, wp_X1_handOn_65 post n_ x1 x2_1 x4_2 (0 : Int32) (0 : Int32) S53)))))
def wp_X1_flow_83 (K53 : Int32 → Int32 → Int32 → CS → Prop) (post : CS → Prop) (x3 : Int32) (x4 : Int32) (x5 : Int32) (S : CS) : Prop :=
 ∀ x5_1 : Int32, x5_1 = x5 + (1 : Int32) → K53 x3 x4 x5_1 S
def ws_X1_flow_53 (rec_ : Int32 → Int32 → Int32 → CS → Prop) (K37 : Int32 → Int32 → CS → Prop) (post : CS → Prop) (x3 : Int32) (x4 : Int32) (x5 : Int32) (S : CS) : Prop :=
 wp_X5_size S (fun r59 S59 =>
 ((r59 ≤ x5 →
 ∀ x4_1 : Int32, x4_1 = x4 + (1 : Int32) → K37 x3 x4_1 S59) ∧
 (¬ r59 ≤ x5 →
 wp_X5_fromTheBeginning S59 x5 (fun r72 S72 =>
 wp_X1_handOn S72 r72 (fun r75 S75 =>
 ((r75 = 0 →
 wp_X1_flow_83 rec_ post x3 x4 x5 S75) ∧
 (¬ r75 = 0 →
 wp_X1_flow_83 rec_ post (1 : Int32) x4 x5 S75)))))))
def wp_X1_flow_53 (K37 : Int32 → Int32 → CS → Prop) (post : CS → Prop) : Nat → Int32 → Int32 → Int32 → CS → Prop
  | 0 => fun _ _ _ _ => False
  | n + 1 => ws_X1_flow_53 (wp_X1_flow_53 K37 post n) K37 post
def ws_X1_flow_37 (rec_ : Int32 → Int32 → CS → Prop) (post : CS → Prop) (x3 : Int32) (x4 : Int32) (S : CS) : Prop :=
 (((144001 : Int32) ≤ x4 →
 post S) ∧
 (¬ (144001 : Int32) ≤ x4 →
 ((x3 = 0 →
 post S) ∧
 (¬ x3 = 0 →
 (∃ n_, wp_X1_flow_53 rec_ post n_ (0 : Int32) x4 (0 : Int32) S)))))
def wp_X1_flow_37 (post : CS → Prop) : Nat → Int32 → Int32 → CS → Prop
  | 0 => fun _ _ _ => False
  | n + 1 => ws_X1_flow_37 (wp_X1_flow_37 post n) post
def wp_X1_flow (S : CS) (x1 : Int64) (post : CS → Prop) : Prop :=
 ∀ S_1 : CS, S_1 = sC_onAll S (fl_J 150 (-1 : Int64) (gC_onAll S)) → ∀ S_2 : CS, S_2 = sC_onSome S_1 (fl_J 150 (0 : Int64) (gC_onSome S_1)) → vp_in (0 : Int32) 150 ∧ ∀ S_3 : CS, S_3 = sC_onAll S_2 (vp_updL (gC_onAll S_2) ((0 : Int32)).toNatClampNeg x1) → vp_in (0 : Int32) 150 ∧ ∀ S_4 : CS, S_4 = sC_onSome S_3 (vp_updL (gC_onSome S_3) ((0 : Int32)).toNatClampNeg x1) → (∃ n_, wp_X1_flow_37 post n_ (1 : Int32) (0 : Int32) S_4)
def wp_X6_knowLeaves (S : CS) (post : CS → Prop) : Prop :=
 wp_X6_knowWays S (fun S1 =>
 ((¬ (gC_eK S1) = 0 →
 post S1) ∧
 ((gC_eK S1) = 0 →
 wp_X4_begun S1 (fun r19 S19 =>
 wp_X1_flow S19 r19 (fun S22 =>
 ∀ S_1 : CS, S_1 = sC_eK S22 (1 : Int32) → post S_1)))))
def wp_X5_comeTo (S : CS) (x1 : Int32) (post : Int32 → CS → Prop) : Prop :=
 vp_in x1 150 ∧ (((gC_tried S (x1).toNatClampNeg) = (-1 : Int32) →
 post (0 : Int32) S) ∧
 (¬ (gC_tried S (x1).toNatClampNeg) = (-1 : Int32) →
 post (1 : Int32) S))
def wp_X0_wantedAt (S : CS) (x1 : Int32) (post : Int64 → CS → Prop) : Prop :=
 vp_in x1 150 ∧ post (gC_wanted S (x1).toNatClampNeg) S
def wp_X1_missing (S : CS) (x1 : Int32) (post : Int64 → CS → Prop) : Prop :=
 wp_X5_comeTo S x1 (fun r5 S5 =>
 ((r5 = 0 →
 post (0 : Int64) S5) ∧
 (¬ r5 = 0 →
 wp_X0_wantedAt S5 x1 (fun r16 S16 =>
 vp_in x1 150 ∧ post (r16 &&& ((gC_onAll S16 (x1).toNatClampNeg) ^^^ (-1 : Int64))) S16))))
def ws_X6_leastUnheld_2 (rec_ : Int32 → CS → Prop) (post : Int32 → CS → Prop) (x1 : Int32) (S : CS) : Prop :=
 (((150 : Int32) ≤ x1 →
 post (-1 : Int32) S) ∧
 (¬ (150 : Int32) ≤ x1 →
 wp_X1_missing S x1 (fun r14 S14 =>
 (((lg_cmp r14 (0 : Int64)) = 0 →
 ∀ x1_1 : Int32, x1_1 = x1 + (1 : Int32) → rec_ x1_1 S14) ∧
 (¬ (lg_cmp r14 (0 : Int64)) = 0 →
 post x1 S14)))))
def wp_X6_leastUnheld_2 (post : Int32 → CS → Prop) : Nat → Int32 → CS → Prop
  | 0 => fun _ _ => False
  | n + 1 => ws_X6_leastUnheld_2 (wp_X6_leastUnheld_2 post n) post
def wp_X6_leastUnheld (S : CS) (post : Int32 → CS → Prop) : Prop :=
 (∃ n_, wp_X6_leastUnheld_2 post n_ (0 : Int32) S)
def wp_X0_makesLoan (S : CS) (x1 : Int32) (post : Int32 → CS → Prop) : Prop :=
 vp_in x1 150 ∧ ((¬ (gC_kinds S (x1).toNatClampNeg) = (7 : Int32) →
 post (0 : Int32) S) ∧
 ((gC_kinds S (x1).toNatClampNeg) = (7 : Int32) →
 vp_in x1 150 ∧ wp_X4_isShared S (gC_places S (x1).toNatClampNeg) (fun r21 S21 =>
 ((¬ r21 = 0 →
 post (0 : Int32) S21) ∧
 (r21 = 0 →
 post (1 : Int32) S21)))))
def wp_X0_variableAt (S : CS) (x1 : Int32) (post : Int32 → CS → Prop) : Prop :=
 vp_in x1 150 ∧ post (gC_places S (x1).toNatClampNeg) S
def wp_X0_makesSoleLoan (S : CS) (x1 : Int32) (post : Int32 → CS → Prop) : Prop :=
 wp_X0_makesLoan S x1 (fun r2 S2 =>
 ((r2 = 0 →
 post (0 : Int32) S2) ∧
 (¬ r2 = 0 →
 vp_in x1 150 ∧ wp_X4_isSole S2 (gC_recvs S2 (x1).toNatClampNeg) (fun r18 S18 =>
 ((r18 = 0 →
 post (0 : Int32) S18) ∧
 (¬ r18 = 0 →
 post (1 : Int32) S18))))))
def wp_X2_number_139 (K28 : Int32 → CS → Prop) (post : CS → Prop) (x1 : Int32) (S : CS) : Prop :=
 ∀ x1_1 : Int32, x1_1 = x1 + (1 : Int32) → K28 x1_1 S
def wp_X2_number_135 (K139 : Int32 → CS → Prop) (post : CS → Prop) (x1 : Int32) (k0 : Int64) (k1 : Int64) (S : CS) : Prop :=
 ∀ S_1 : CS, S_1 = sC_soleL S (k1 ||| k0) → K139 x1 S_1
def ws_X2_number_28 (rec_ : Int32 → CS → Prop) (post : CS → Prop) (x1 : Int32) (S : CS) : Prop :=
 (((150 : Int32) ≤ x1 →
 post S) ∧
 (¬ (150 : Int32) ≤ x1 →
 (((60 : Int32) ≤ (gC_lmade S) →
 post S) ∧
 (¬ (60 : Int32) ≤ (gC_lmade S) →
 wp_X0_makesLoan S x1 (fun r49 S49 =>
 ((r49 = 0 →
 wp_X2_number_139 rec_ post x1 S49) ∧
 (¬ r49 = 0 →
 vp_in x1 150 ∧ ∀ S_1 : CS, S_1 = sC_bits S49 (vp_updL (gC_bits S49) (x1).toNatClampNeg ((1 : Int64) <<< ((gC_lmade S49).toInt64 &&& 63))) → vp_in (gC_lmade S_1) 60 ∧ ∀ S_2 : CS, S_2 = sC_makers S_1 (upd (gC_makers S_1) (gC_lmade S_1).toNatClampNeg x1) → ∀ S_3 : CS, S_3 = sC_lmade S_2 ((gC_lmade S_2) + (1 : Int32)) → wp_X0_variableAt S_3 x1 (fun r96 S96 =>
 vp_in r96 16 ∧ vp_in x1 150 ∧ vp_in r96 16 ∧ ∀ S_4 : CS, S_4 = sC_loansOf S96 (vp_updL (gC_loansOf S96) (r96).toNatClampNeg ((gC_loansOf S96 (r96).toNatClampNeg) ||| (gC_bits S96 (x1).toNatClampNeg))) → wp_X0_makesSoleLoan S_4 x1 (fun r119 S119 =>
 ((r119 = 0 →
 wp_X2_number_135 (fun x1 S => wp_X2_number_139 rec_ post x1 S) post x1 (0 : Int64) (gC_soleL S_4) S119) ∧
 (¬ r119 = 0 →
 vp_in x1 150 ∧ wp_X2_number_135 (fun x1 S => wp_X2_number_139 rec_ post x1 S) post x1 (gC_bits S119 (x1).toNatClampNeg) (gC_soleL S_4) S119)))))))))))
def wp_X2_number_28 (post : CS → Prop) : Nat → Int32 → CS → Prop
  | 0 => fun _ _ => False
  | n + 1 => ws_X2_number_28 (wp_X2_number_28 post n) post
def wp_X2_number (S : CS) (post : CS → Prop) : Prop :=
 ∀ S_1 : CS, S_1 = sC_bits S (fl_J 150 (0 : Int64) (gC_bits S)) → ∀ S_2 : CS, S_2 = sC_loansOf S_1 (fl_J 16 (0 : Int64) (gC_loansOf S_1)) → ∀ S_3 : CS, S_3 = sC_soleL S_2 (0 : Int64) → ∀ S_4 : CS, S_4 = sC_lmade S_3 (0 : Int32) → (∃ n_, wp_X2_number_28 post n_ (0 : Int32) S_4)
def wp_X4_size (S : CS) (post : Int32 → CS → Prop) : Prop :=
 post (gC_vmade S) S
def wp_X2_takeOver_64 (K4 : Int32 → Int32 → Int32 → CS → Prop) (post : Int32 → CS → Prop) (x1 : Int32) (x2 : Int32) (x3 : Int32) (S : CS) : Prop :=
 ∀ x3_1 : Int32, x3_1 = x3 + (1 : Int32) → K4 x1 x2 x3_1 S
def ws_X2_takeOver_4 (rec_ : Int32 → Int32 → Int32 → CS → Prop) (post : Int32 → CS → Prop) (x1 : Int32) (x2 : Int32) (x3 : Int32) (S : CS) : Prop :=
 wp_X4_size S (fun r9 S9 =>
 ((r9 ≤ x3 →
 isb x2 ∧ post x2 S9) ∧
 (¬ r9 ≤ x3 →
 ∀ x4_1 : Int32, x4_1 = (x1 * (16 : Int32)) + x3 → vp_in x3 16 ∧ vp_in x4_1 2400 ∧ (((lg_cmp ((gC_handed S9 (x3).toNatClampNeg) &&& ((gC_holdings S9 (x4_1).toNatClampNeg) ^^^ (-1 : Int64))) (0 : Int64)) = 0 →
 wp_X2_takeOver_64 rec_ post x1 x2 x3 S9) ∧
 (¬ (lg_cmp ((gC_handed S9 (x3).toNatClampNeg) &&& ((gC_holdings S9 (x4_1).toNatClampNeg) ^^^ (-1 : Int64))) (0 : Int64)) = 0 →
 vp_in x4_1 2400 ∧ vp_in x3 16 ∧ vp_in x4_1 2400 ∧ ∀ S_2 : CS, S_2 = sC_holdings S9 (vp_updL (gC_holdings S9) (x4_1).toNatClampNeg ((gC_holdings S9 (x4_1).toNatClampNeg) ||| (gC_handed S9 (x3).toNatClampNeg))) → wp_X2_takeOver_64 rec_ post x1 (1 : Int32) x3 S_2)))))
def wp_X2_takeOver_4 (post : Int32 → CS → Prop) : Nat → Int32 → Int32 → Int32 → CS → Prop
  | 0 => fun _ _ _ _ => False
  | n + 1 => ws_X2_takeOver_4 (wp_X2_takeOver_4 post n) post
def wp_X2_takeOver (S : CS) (x1 : Int32) (post : Int32 → CS → Prop) : Prop :=
 (∃ n_, wp_X2_takeOver_4 post n_ x1 (0 : Int32) (0 : Int32) S)
def wp_X0_renewedAt (S : CS) (x1 : Int32) (post : Int32 → CS → Prop) : Prop :=
 vp_in x1 150 ∧ post (gC_renR S (x1).toNatClampNeg) S
def wp_X0_usedAt (S : CS) (x1 : Int32) (post : Int32 → CS → Prop) : Prop :=
 vp_in x1 150 ∧ post (gC_usedR S (x1).toNatClampNeg) S
def ws_X2_renew_55 (rec_ : Int32 → Int32 → CS → Prop) (post : CS → Prop) (x2 : Int32) (x4 : Int32) (S : CS) : Prop :=
 wp_X4_size S (fun r61 S61 =>
 ((r61 ≤ x4 →
 post S61) ∧
 (¬ r61 ≤ x4 →
 vp_in x4 16 ∧ vp_in x2 16 ∧ vp_in x4 16 ∧ ∀ S_1 : CS, S_1 = sC_handed S61 (vp_updL (gC_handed S61) (x4).toNatClampNeg ((gC_handed S61 (x4).toNatClampNeg) &&& ((gC_loansOf S61 (x2).toNatClampNeg) ^^^ (-1 : Int64)))) → ∀ x4_2 : Int32, x4_2 = x4 + (1 : Int32) → rec_ x2 x4_2 S_1)))
def wp_X2_renew_55 (post : CS → Prop) : Nat → Int32 → Int32 → CS → Prop
  | 0 => fun _ _ _ => False
  | n + 1 => ws_X2_renew_55 (wp_X2_renew_55 post n) post
def wp_X2_renew_50 (post : CS → Prop) (x2 : Int32) (k0 : Int64) (k1 : Int64) (k2 : Int32) (S : CS) : Prop :=
 vp_in k2 16 ∧ ∀ S_1 : CS, S_1 = sC_handed S (vp_updL (gC_handed S) (k2).toNatClampNeg (k1 ||| k0)) → (∃ n_, wp_X2_renew_55 post n_ x2 (0 : Int32) S_1)
def wp_X2_renew (S : CS) (x1 : Int32) (post : CS → Prop) : Prop :=
 wp_X0_renewedAt S x1 (fun r5 S5 =>
 ((¬ r5 = (-1 : Int32) →
 wp_X0_usedAt S5 x1 (fun r20 S20 =>
 vp_in x1 150 ∧ ((¬ r20 = (-1 : Int32) →
 vp_in r20 16 ∧ wp_X2_renew_50 post r5 (gC_handed S20 (r20).toNatClampNeg) (gC_bits S20 (x1).toNatClampNeg) r5 S20) ∧
 (r20 = (-1 : Int32) →
 wp_X2_renew_50 post r5 (0 : Int64) (gC_bits S20 (x1).toNatClampNeg) r5 S20)))) ∧
 (r5 = (-1 : Int32) →
 post S5)))
def wp_X2_handOn_57 (K27 : Int32 → Int32 → Int32 → CS → Prop) (post : Int32 → CS → Prop) (x1 : Int32) (x2 : Int32) (x3 : Int32) (S : CS) : Prop :=
 ∀ x3_1 : Int32, x3_1 = x3 + (1 : Int32) → K27 x1 x2 x3_1 S
def ws_X2_handOn_27 (rec_ : Int32 → Int32 → Int32 → CS → Prop) (post : Int32 → CS → Prop) (x1 : Int32) (x2 : Int32) (x3 : Int32) (S : CS) : Prop :=
 wp_X5_nextCount S x1 (fun r33 S33 =>
 ((r33 ≤ x3 →
 isb x2 ∧ post x2 S33) ∧
 (¬ r33 ≤ x3 →
 wp_X5_nextOf S33 x1 x3 (fun r46 S46 =>
 wp_X2_takeOver S46 r46 (fun r49 S49 =>
 ((r49 = 0 →
 wp_X2_handOn_57 rec_ post x1 x2 x3 S49) ∧
 (¬ r49 = 0 →
 wp_X2_handOn_57 rec_ post x1 (1 : Int32) x3 S49)))))))
def wp_X2_handOn_27 (post : Int32 → CS → Prop) : Nat → Int32 → Int32 → Int32 → CS → Prop
  | 0 => fun _ _ _ _ => False
  | n + 1 => ws_X2_handOn_27 (wp_X2_handOn_27 post n) post
def wp_X2_handOn (S : CS) (x1 : Int32) (post : Int32 → CS → Prop) : Prop :=
 (¬ (x1 * (16 : Int32)) < 0 ∧ (x1 * (16 : Int32)).toNatClampNeg + 16 ≤ 2400) ∧ ∀ S_1 : CS, S_1 = sC_handed S (va_cpy (gC_holdings S) (gC_handed S) (x1 * (16 : Int32)).toNatClampNeg 0 16) → wp_X2_renew S_1 x1 (fun S20 =>
 (∃ n_, wp_X2_handOn_27 post n_ x1 (0 : Int32) (0 : Int32) S20))
def wp_X2_flowHoldings_65 (K37 : Int32 → Int32 → Int32 → CS → Prop) (post : CS → Prop) (x1 : Int32) (x2 : Int32) (x3 : Int32) (S : CS) : Prop :=
 ∀ x3_1 : Int32, x3_1 = x3 + (1 : Int32) → K37 x1 x2 x3_1 S
def ws_X2_flowHoldings_37 (rec_ : Int32 → Int32 → Int32 → CS → Prop) (K23 : Int32 → Int32 → CS → Prop) (post : CS → Prop) (x1 : Int32) (x2 : Int32) (x3 : Int32) (S : CS) : Prop :=
 wp_X5_size S (fun r42 S42 =>
 ((r42 ≤ x3 →
 ∀ x2_1 : Int32, x2_1 = x2 + (1 : Int32) → K23 x1 x2_1 S42) ∧
 (¬ r42 ≤ x3 →
 wp_X5_fromTheBeginning S42 x3 (fun r54 S54 =>
 wp_X2_handOn S54 r54 (fun r57 S57 =>
 ((r57 = 0 →
 wp_X2_flowHoldings_65 rec_ post x1 x2 x3 S57) ∧
 (¬ r57 = 0 →
 wp_X2_flowHoldings_65 rec_ post (1 : Int32) x2 x3 S57)))))))
def wp_X2_flowHoldings_37 (K23 : Int32 → Int32 → CS → Prop) (post : CS → Prop) : Nat → Int32 → Int32 → Int32 → CS → Prop
  | 0 => fun _ _ _ _ => False
  | n + 1 => ws_X2_flowHoldings_37 (wp_X2_flowHoldings_37 K23 post n) K23 post
def ws_X2_flowHoldings_23 (rec_ : Int32 → Int32 → CS → Prop) (post : CS → Prop) (x1 : Int32) (x2 : Int32) (S : CS) : Prop :=
 (((144001 : Int32) ≤ x2 →
 post S) ∧
 (¬ (144001 : Int32) ≤ x2 →
 ((x1 = 0 →
 post S) ∧
 (¬ x1 = 0 →
 (∃ n_, wp_X2_flowHoldings_37 rec_ post n_ (0 : Int32) x2 (0 : Int32) S)))))
def wp_X2_flowHoldings_23 (post : CS → Prop) : Nat → Int32 → Int32 → CS → Prop
  | 0 => fun _ _ _ => False
  | n + 1 => ws_X2_flowHoldings_23 (wp_X2_flowHoldings_23 post n) post
def wp_X2_flowHoldings_20 (post : CS → Prop) (k0 : Int32) (S : CS) : Prop :=
 (∃ n_, wp_X2_flowHoldings_23 post n_ k0 (0 : Int32) S)
def wp_X2_flowHoldings (S : CS) (post : CS → Prop) : Prop :=
 ∀ S_1 : CS, S_1 = sC_holdings S (fl_J 2400 (0 : Int64) (gC_holdings S)) → (((gC_lmade S_1) ≤ 0 →
 wp_X2_flowHoldings_20 post (0 : Int32) S_1) ∧
 (¬ (gC_lmade S_1) ≤ 0 →
 wp_X2_flowHoldings_20 post (1 : Int32) S_1))
def wp_X5_fromTheEnd (S : CS) (x1 : Int32) (post : Int32 → CS → Prop) : Prop :=
 vp_in x1 150 ∧ post (gC_order S (x1).toNatClampNeg) S
def wp_X2_variableBit (S : CS) (x0 : Int32) (post : Int32 → CS → Prop) : Prop :=
 ((¬ x0 = (-1 : Int32) →
 post ((1 : Int32) <<< (x0 &&& 31)) S) ∧
 (x0 = (-1 : Int32) →
 post (0 : Int32) S))
def ws_X2_usesBehind_4 (rec_ : Int32 → Int32 → Int32 → CS → Prop) (post : Int32 → CS → Prop) (x1 : Int32) (x2 : Int32) (x3 : Int32) (S : CS) : Prop :=
 wp_X5_nextCount S x1 (fun r10 S10 =>
 ((r10 ≤ x3 →
 post x2 S10) ∧
 (¬ r10 ≤ x3 →
 wp_X5_nextOf S10 x1 x3 (fun r22 S22 =>
 vp_in r22 150 ∧ wp_X0_renewedAt S22 r22 (fun r41 S41 =>
 wp_X2_variableBit S41 r41 (fun r44 S44 =>
 wp_X0_usedAt S44 r22 (fun r56 S56 =>
 wp_X2_variableBit S56 r56 (fun r59 S59 =>
 ∀ x2_1 : Int32, x2_1 = x2 ||| (((gC_usedL S22 (r22).toNatClampNeg) &&& (r44 ^^^ (-1 : Int32))) ||| r59) → ∀ x3_2 : Int32, x3_2 = x3 + (1 : Int32) → rec_ x1 x2_1 x3_2 S59))))))))
def wp_X2_usesBehind_4 (post : Int32 → CS → Prop) : Nat → Int32 → Int32 → Int32 → CS → Prop
  | 0 => fun _ _ _ _ => False
  | n + 1 => ws_X2_usesBehind_4 (wp_X2_usesBehind_4 post n) post
def wp_X2_usesBehind (S : CS) (x1 : Int32) (post : Int32 → CS → Prop) : Prop :=
 (∃ n_, wp_X2_usesBehind_4 post n_ x1 (0 : Int32) (0 : Int32) S)
def wp_X2_flowUses_78 (K26 : Int32 → Int32 → Int32 → CS → Prop) (post : CS → Prop) (x1 : Int32) (x2 : Int32) (x3 : Int32) (S : CS) : Prop :=
 ∀ x3_1 : Int32, x3_1 = x3 + (1 : Int32) → K26 x1 x2 x3_1 S
def ws_X2_flowUses_26 (rec_ : Int32 → Int32 → Int32 → CS → Prop) (K12 : Int32 → Int32 → CS → Prop) (post : CS → Prop) (x1 : Int32) (x2 : Int32) (x3 : Int32) (S : CS) : Prop :=
 wp_X5_size S (fun r31 S31 =>
 ((r31 ≤ x3 →
 ∀ x2_1 : Int32, x2_1 = x2 + (1 : Int32) → K12 x1 x2_1 S31) ∧
 (¬ r31 ≤ x3 →
 wp_X5_fromTheEnd S31 x3 (fun r42 S42 =>
 wp_X2_usesBehind S42 r42 (fun r50 S50 =>
 vp_in r42 150 ∧ ((r50 = (gC_usedL S50 (r42).toNatClampNeg) →
 wp_X2_flowUses_78 rec_ post x1 x2 x3 S50) ∧
 (¬ r50 = (gC_usedL S50 (r42).toNatClampNeg) →
 vp_in r42 150 ∧ ∀ S_2 : CS, S_2 = sC_usedL S50 (upd (gC_usedL S50) (r42).toNatClampNeg r50) → wp_X2_flowUses_78 rec_ post (1 : Int32) x2 x3 S_2)))))))
def wp_X2_flowUses_26 (K12 : Int32 → Int32 → CS → Prop) (post : CS → Prop) : Nat → Int32 → Int32 → Int32 → CS → Prop
  | 0 => fun _ _ _ _ => False
  | n + 1 => ws_X2_flowUses_26 (wp_X2_flowUses_26 K12 post n) K12 post
def ws_X2_flowUses_12 (rec_ : Int32 → Int32 → CS → Prop) (post : CS → Prop) (x1 : Int32) (x2 : Int32) (S : CS) : Prop :=
 (((144001 : Int32) ≤ x2 →
 post S) ∧
 (¬ (144001 : Int32) ≤ x2 →
 ((x1 = 0 →
 post S) ∧
 (¬ x1 = 0 →
 (∃ n_, wp_X2_flowUses_26 rec_ post n_ (0 : Int32) x2 (0 : Int32) S)))))
def wp_X2_flowUses_12 (post : CS → Prop) : Nat → Int32 → Int32 → CS → Prop
  | 0 => fun _ _ _ => False
  | n + 1 => ws_X2_flowUses_12 (wp_X2_flowUses_12 post n) post
def wp_X2_flowUses (S : CS) (post : CS → Prop) : Prop :=
 ∀ S_1 : CS, S_1 = sC_usedL S (fl_I 150 (0 : Int32) (gC_usedL S)) → (∃ n_, wp_X2_flowUses_12 post n_ (1 : Int32) (0 : Int32) S_1)
def wp_X6_knowLoans (S : CS) (post : CS → Prop) : Prop :=
 wp_X6_knowWays S (fun S1 =>
 ((¬ (gC_lK S1) = 0 →
 post S1) ∧
 ((gC_lK S1) = 0 →
 wp_X2_number S1 (fun S15 =>
 wp_X2_flowHoldings S15 (fun S22 =>
 wp_X2_flowUses S22 (fun S29 =>
 ∀ S_1 : CS, S_1 = sC_lK S29 (1 : Int32) → post S_1))))))
def wp_X0_pathAt (S : CS) (x1 : Int32) (post : Int32 → CS → Prop) : Prop :=
 vp_in x1 150 ∧ post (gC_paths S (x1).toNatClampNeg) S
def ws_X3_oneBeginsTheOther_7 (rec_ : Int32 → Int32 → Int32 → CS → Prop) (post : Int32 → CS → Prop) (x2 : Int32) (x3 : Int32) (x4 : Int32) (S : CS) : Prop :=
 (((4 : Int32) ≤ x4 →
 post (1 : Int32) S) ∧
 (¬ (4 : Int32) ≤ x4 →
 ((x2 = 0 →
 post (1 : Int32) S) ∧
 (¬ x2 = 0 →
 ((x3 = 0 →
 post (1 : Int32) S) ∧
 (¬ x3 = 0 →
 wp_X3_firstDigit S x2 (fun r22 S22 =>
 wp_X3_firstDigit S22 x3 (fun r26 S26 =>
 ((r22 = r26 →
 wp_X3_behindFirst S26 x2 (fun r35 S35 =>
 wp_X3_behindFirst S35 x3 (fun r40 S40 =>
 ∀ x4_1 : Int32, x4_1 = x4 + (1 : Int32) → rec_ r35 r40 x4_1 S40))) ∧
 (¬ r22 = r26 →
 post (0 : Int32) S26))))))))))
def wp_X3_oneBeginsTheOther_7 (post : Int32 → CS → Prop) : Nat → Int32 → Int32 → Int32 → CS → Prop
  | 0 => fun _ _ _ _ => False
  | n + 1 => ws_X3_oneBeginsTheOther_7 (wp_X3_oneBeginsTheOther_7 post n) post
def wp_X3_oneBeginsTheOther (S : CS) (x0 : Int32) (x1 : Int32) (post : Int32 → CS → Prop) : Prop :=
 (∃ n_, wp_X3_oneBeginsTheOther_7 post n_ x0 x1 (0 : Int32) S)
def wp_X0_canClash (S : CS) (x1 : Int32) (post : Int32 → CS → Prop) : Prop :=
 vp_in x1 150 ∧ ((¬ (gC_kinds S (x1).toNatClampNeg) = (6 : Int32) →
 vp_in x1 150 ∧ wp_X0_isOnPlace S (gC_kinds S (x1).toNatClampNeg) (fun r39 S39 =>
 ((¬ r39 = 0 →
 post (1 : Int32) S39) ∧
 (r39 = 0 →
 vp_in x1 150 ∧ ((¬ (gC_kinds S39 (x1).toNatClampNeg) = (8 : Int32) →
 post (0 : Int32) S39) ∧
 ((gC_kinds S39 (x1).toNatClampNeg) = (8 : Int32) →
 post (1 : Int32) S39)))))) ∧
 ((gC_kinds S (x1).toNatClampNeg) = (6 : Int32) →
 vp_in x1 150 ∧ wp_X4_isReference S (gC_places S (x1).toNatClampNeg) (fun r21 S21 =>
 ((¬ r21 = 0 →
 post (0 : Int32) S21) ∧
 (r21 = 0 →
 post (1 : Int32) S21)))))
def wp_X2_inForce_63 (K26 : Int32 → Int32 → Int64 → Int32 → CS → Prop) (post : Int64 → CS → Prop) (x1 : Int32) (x2 : Int32) (x3 : Int64) (x5 : Int32) (S : CS) : Prop :=
 ∀ x5_1 : Int32, x5_1 = x5 + (1 : Int32) → K26 x1 x2 x3 x5_1 S
def ws_X2_inForce_26 (rec_ : Int32 → Int32 → Int64 → Int32 → CS → Prop) (post : Int64 → CS → Prop) (x1 : Int32) (x2 : Int32) (x3 : Int64) (x5 : Int32) (S : CS) : Prop :=
 wp_X4_size S (fun r32 S32 =>
 ((r32 ≤ x5 →
 post x3 S32) ∧
 (¬ r32 ≤ x5 →
 wp_X2_variableBit S32 x5 (fun r41 S41 =>
 (((x2 &&& r41) = 0 →
 wp_X2_inForce_63 rec_ post x1 x2 x3 x5 S41) ∧
 (¬ (x2 &&& r41) = 0 →
 vp_in ((x1 * (16 : Int32)) + x5) 2400 ∧ ∀ x3_1 : Int64, x3_1 = x3 ||| (gC_holdings S41 ((x1 * (16 : Int32)) + x5).toNatClampNeg) → wp_X2_inForce_63 rec_ post x1 x2 x3_1 x5 S41))))))
def wp_X2_inForce_26 (post : Int64 → CS → Prop) : Nat → Int32 → Int32 → Int64 → Int32 → CS → Prop
  | 0 => fun _ _ _ _ _ => False
  | n + 1 => ws_X2_inForce_26 (wp_X2_inForce_26 post n) post
def wp_X2_inForce (S : CS) (x1 : Int32) (post : Int64 → CS → Prop) : Prop :=
 vp_in x1 150 ∧ wp_X0_renewedAt S x1 (fun r11 S11 =>
 wp_X2_variableBit S11 r11 (fun r14 S14 =>
 ∀ x2_1 : Int32, x2_1 = (gC_usedL S (x1).toNatClampNeg) &&& (r14 ^^^ (-1 : Int32)) → (∃ n_, wp_X2_inForce_26 post n_ x1 x2_1 (0 : Int64) (0 : Int32) S14)))
def wp_X0_onlyLooks_34 (post : Int32 → CS → Prop) (x1 : Int32) (x2 : Int32) (S : CS) : Prop :=
 ((¬ x2 = (8 : Int32) →
 post (0 : Int32) S) ∧
 (x2 = (8 : Int32) →
 vp_in x1 150 ∧ wp_X4_isShared S (gC_places S (x1).toNatClampNeg) (fun r50 S50 =>
 ((r50 = 0 →
 post (0 : Int32) S50) ∧
 (¬ r50 = 0 →
 post (1 : Int32) S50)))))
def wp_X0_onlyLooks (S : CS) (x1 : Int32) (post : Int32 → CS → Prop) : Prop :=
 vp_in x1 150 ∧ ∀ x2_1 : Int32, x2_1 = gC_kinds S (x1).toNatClampNeg → ((x2_1 = (1 : Int32) →
 post (1 : Int32) S) ∧
 (¬ x2_1 = (1 : Int32) →
 ((¬ x2_1 = (7 : Int32) →
 wp_X0_onlyLooks_34 post x1 x2_1 S) ∧
 (x2_1 = (7 : Int32) →
 vp_in x1 150 ∧ wp_X4_isShared S (gC_recvs S (x1).toNatClampNeg) (fun r28 S28 =>
 ((¬ r28 = 0 →
 post (1 : Int32) S28) ∧
 (r28 = 0 →
 wp_X0_onlyLooks_34 post x1 x2_1 S28)))))))
def wp_X2_leastClash_120 (K54 : Int32 → Int64 → Int32 → CS → Prop) (post : Int32 → CS → Prop) (x1 : Int32) (x2 : Int64) (x4 : Int32) (S : CS) : Prop :=
 ∀ x4_1 : Int32, x4_1 = x4 + (1 : Int32) → K54 x1 x2 x4_1 S
def ws_X2_leastClash_54 (rec_ : Int32 → Int64 → Int32 → CS → Prop) (post : Int32 → CS → Prop) (x1 : Int32) (x2 : Int64) (x4 : Int32) (S : CS) : Prop :=
 (((gC_lmade S) ≤ x4 →
 post (-1 : Int32) S) ∧
 (¬ (gC_lmade S) ≤ x4 →
 (((lg_cmp x2 (0 : Int64)) = 0 →
 post (-1 : Int32) S) ∧
 (¬ (lg_cmp x2 (0 : Int64)) = 0 →
 vp_in x4 60 ∧ wp_X0_pathAt S (gC_makers S (x4).toNatClampNeg) (fun r80 S80 =>
 (((lg_cmp ((x2 >>> (x4.toInt64 &&& 63)) &&& (1 : Int64)) (0 : Int64)) = 0 →
 wp_X2_leastClash_120 rec_ post x1 x2 x4 S80) ∧
 (¬ (lg_cmp ((x2 >>> (x4.toInt64 &&& 63)) &&& (1 : Int64)) (0 : Int64)) = 0 →
 wp_X0_pathAt S80 x1 (fun r103 S103 =>
 wp_X3_oneBeginsTheOther S103 r80 r103 (fun r106 S106 =>
 ((r106 = 0 →
 wp_X2_leastClash_120 rec_ post x1 x2 x4 S106) ∧
 (¬ r106 = 0 →
 vp_in x4 60 ∧ post (gC_makers S106 (x4).toNatClampNeg) S106)))))))))))
def wp_X2_leastClash_54 (post : Int32 → CS → Prop) : Nat → Int32 → Int64 → Int32 → CS → Prop
  | 0 => fun _ _ _ _ => False
  | n + 1 => ws_X2_leastClash_54 (wp_X2_leastClash_54 post n) post
def wp_X2_leastClash_51 (post : Int32 → CS → Prop) (x1 : Int32) (x2 : Int64) (S : CS) : Prop :=
 (∃ n_, wp_X2_leastClash_54 post n_ x1 x2 (0 : Int32) S)
def wp_X2_leastClash (S : CS) (x1 : Int32) (post : Int32 → CS → Prop) : Prop :=
 wp_X0_canClash S x1 (fun r5 S5 =>
 ((¬ r5 = 0 →
 wp_X2_inForce S5 x1 (fun r15 S15 =>
 wp_X0_variableAt S15 x1 (fun r27 S27 =>
 vp_in r27 16 ∧ ∀ x2_1 : Int64, x2_1 = r15 &&& (gC_loansOf S27 (r27).toNatClampNeg) → wp_X0_onlyLooks S27 x1 (fun r38 S38 =>
 ((r38 = 0 →
 wp_X2_leastClash_51 post x1 x2_1 S38) ∧
 (¬ r38 = 0 →
 ∀ x2_2 : Int64, x2_2 = x2_1 &&& (gC_soleL S38) → wp_X2_leastClash_51 post x1 x2_2 S38)))))) ∧
 (r5 = 0 →
 post (-1 : Int32) S5)))
def ws_X6_leastClashing_2 (rec_ : Int32 → CS → Prop) (post : Int32 → CS → Prop) (x1 : Int32) (S : CS) : Prop :=
 (((150 : Int32) ≤ x1 →
 post (-1 : Int32) S) ∧
 (¬ (150 : Int32) ≤ x1 →
 wp_X2_leastClash S x1 (fun r14 S14 =>
 ((r14 = (-1 : Int32) →
 ∀ x1_1 : Int32, x1_1 = x1 + (1 : Int32) → rec_ x1_1 S14) ∧
 (¬ r14 = (-1 : Int32) →
 post x1 S14)))))
def wp_X6_leastClashing_2 (post : Int32 → CS → Prop) : Nat → Int32 → CS → Prop
  | 0 => fun _ _ => False
  | n + 1 => ws_X6_leastClashing_2 (wp_X6_leastClashing_2 post n) post
def wp_X6_leastClashing (S : CS) (post : Int32 → CS → Prop) : Prop :=
 (∃ n_, wp_X6_leastClashing_2 post n_ (0 : Int32) S)
def wp_X6_judge (S : CS) (post : Int32 → CS → Prop) : Prop :=
 wp_X6_knowLeaves S (fun S1 =>
 wp_X6_leastUnheld S1 (fun r5 S5 =>
 ((r5 = (-1 : Int32) →
 wp_X6_knowLoans S5 (fun S15 =>
 wp_X6_leastClashing S15 (fun r19 S19 =>
 ((r19 = (-1 : Int32) →
 post (0 : Int32) S19) ∧
 (¬ r19 = (-1 : Int32) →
 post (4 : Int32) S19))))) ∧
 (¬ r5 = (-1 : Int32) →
 post (3 : Int32) S5))))
def ws_X1_leadsOn_2 (rec_ : Int32 → Int32 → CS → Prop) (post : Int32 → CS → Prop) (x1 : Int32) (x2 : Int32) (S : CS) : Prop :=
 wp_X5_nextCount S x1 (fun r8 S8 =>
 ((r8 ≤ x2 →
 post (0 : Int32) S8) ∧
 (¬ r8 ≤ x2 →
 wp_X5_nextOf S8 x1 x2 (fun r24 S24 =>
 vp_in r24 150 ∧ (((gC_leading S24 (r24).toNatClampNeg) = 0 →
 ∀ x2_1 : Int32, x2_1 = x2 + (1 : Int32) → rec_ x1 x2_1 S24) ∧
 (¬ (gC_leading S24 (r24).toNatClampNeg) = 0 →
 post (1 : Int32) S24))))))
def wp_X1_leadsOn_2 (post : Int32 → CS → Prop) : Nat → Int32 → Int32 → CS → Prop
  | 0 => fun _ _ _ => False
  | n + 1 => ws_X1_leadsOn_2 (wp_X1_leadsOn_2 post n) post
def wp_X1_leadsOn (S : CS) (x1 : Int32) (post : Int32 → CS → Prop) : Prop :=
 (∃ n_, wp_X1_leadsOn_2 post n_ x1 (0 : Int32) S)
def wp_X1_findLeading_109 (K40 : Int64 → Int32 → Int32 → Int32 → CS → Prop) (post : CS → Prop) (x2 : Int64) (x4 : Int32) (x5 : Int32) (x6 : Int32) (S : CS) : Prop :=
 ∀ x6_1 : Int32, x6_1 = x6 + (1 : Int32) → K40 x2 x4 x5 x6_1 S
def ws_X1_findLeading_40 (rec_ : Int64 → Int32 → Int32 → Int32 → CS → Prop) (K21 : Int64 → Int32 → Int32 → CS → Prop) (post : CS → Prop) (x2 : Int64) (x4 : Int32) (x5 : Int32) (x6 : Int32) (S : CS) : Prop :=
 wp_X5_size S (fun r46 S46 =>
 ((r46 ≤ x6 →
 ∀ x5_1 : Int32, x5_1 = x5 + (1 : Int32) → K21 x2 x4 x5_1 S46) ∧
 (¬ r46 ≤ x6 →
 wp_X5_fromTheEnd S46 x6 (fun r58 S58 =>
 vp_in r58 150 ∧ ((¬ (gC_leading S58 (r58).toNatClampNeg) = 0 →
 wp_X1_findLeading_109 rec_ post x2 x4 x5 x6 S58) ∧
 ((gC_leading S58 (r58).toNatClampNeg) = 0 →
 wp_X0_givenAt S58 r58 (fun r79 S79 =>
 ((¬ (lg_cmp (r79 &&& x2) (0 : Int64)) = 0 →
 wp_X1_findLeading_109 rec_ post x2 x4 x5 x6 S79) ∧
 ((lg_cmp (r79 &&& x2) (0 : Int64)) = 0 →
 wp_X1_leadsOn S79 r58 (fun r92 S92 =>
 ((r92 = 0 →
 wp_X1_findLeading_109 rec_ post x2 x4 x5 x6 S92) ∧
 (¬ r92 = 0 →
 vp_in r58 150 ∧ ∀ S_2 : CS, S_2 = sC_leading S92 (upd (gC_leading S92) (r58).toNatClampNeg (1 : Int32)) → wp_X1_findLeading_109 rec_ post x2 (1 : Int32) x5 x6 S_2))))))))))))
def wp_X1_findLeading_40 (K21 : Int64 → Int32 → Int32 → CS → Prop) (post : CS → Prop) : Nat → Int64 → Int32 → Int32 → Int32 → CS → Prop
  | 0 => fun _ _ _ _ _ => False
  | n + 1 => ws_X1_findLeading_40 (wp_X1_findLeading_40 K21 post n) K21 post
def ws_X1_findLeading_21 (rec_ : Int64 → Int32 → Int32 → CS → Prop) (post : CS → Prop) (x2 : Int64) (x4 : Int32) (x5 : Int32) (S : CS) : Prop :=
 (((150 : Int32) ≤ x5 →
 post S) ∧
 (¬ (150 : Int32) ≤ x5 →
 ((x4 = 0 →
 post S) ∧
 (¬ x4 = 0 →
 (∃ n_, wp_X1_findLeading_40 rec_ post n_ x2 (0 : Int32) x5 (0 : Int32) S)))))
def wp_X1_findLeading_21 (post : CS → Prop) : Nat → Int64 → Int32 → Int32 → CS → Prop
  | 0 => fun _ _ _ _ => False
  | n + 1 => ws_X1_findLeading_21 (wp_X1_findLeading_21 post n) post
def wp_X1_findLeading (S : CS) (x1 : Int32) (x2 : Int64) (post : CS → Prop) : Prop :=
 ∀ S_1 : CS, S_1 = sC_leading S (fl_I 150 (0 : Int32) (gC_leading S)) → vp_in x1 150 ∧ ∀ S_2 : CS, S_2 = sC_leading S_1 (upd (gC_leading S_1) (x1).toNatClampNeg (1 : Int32)) → (∃ n_, wp_X1_findLeading_21 post n_ x2 (1 : Int32) (0 : Int32) S_2)
def wp_X1_leastTaker_71 (K22 : Int64 → Int32 → CS → Prop) (post : Int32 → CS → Prop) (x4 : Int64) (x6 : Int32) (S : CS) : Prop :=
 ∀ x6_1 : Int32, x6_1 = x6 + (1 : Int32) → K22 x4 x6_1 S
def ws_X1_leastTaker_22 (rec_ : Int64 → Int32 → CS → Prop) (post : Int32 → CS → Prop) (x4 : Int64) (x6 : Int32) (S : CS) : Prop :=
 (((150 : Int32) ≤ x6 →
 post (-1 : Int32) S) ∧
 (¬ (150 : Int32) ≤ x6 →
 wp_X5_comeTo S x6 (fun r36 S36 =>
 ((r36 = 0 →
 wp_X1_leastTaker_71 rec_ post x4 x6 S36) ∧
 (¬ r36 = 0 →
 wp_X0_takenAt S36 x6 (fun r48 S48 =>
 (((lg_cmp (r48 &&& x4) (0 : Int64)) = 0 →
 wp_X1_leastTaker_71 rec_ post x4 x6 S48) ∧
 (¬ (lg_cmp (r48 &&& x4) (0 : Int64)) = 0 →
 wp_X1_leadsOn S48 x6 (fun r62 S62 =>
 ((r62 = 0 →
 wp_X1_leastTaker_71 rec_ post x4 x6 S62) ∧
 (¬ r62 = 0 →
 post x6 S62)))))))))))
def wp_X1_leastTaker_22 (post : Int32 → CS → Prop) : Nat → Int64 → Int32 → CS → Prop
  | 0 => fun _ _ _ => False
  | n + 1 => ws_X1_leastTaker_22 (wp_X1_leastTaker_22 post n) post
def wp_X1_leastTaker (S : CS) (x1 : Int32) (post : Int32 → CS → Prop) : Prop :=
 wp_X1_missing S x1 (fun r2 S2 =>
 ∀ x4_1 : Int64, x4_1 = r2 &&& (-r2) → wp_X1_findLeading S2 x1 x4_1 (fun S16 =>
 (∃ n_, wp_X1_leastTaker_22 post n_ x4_1 (0 : Int32) S16)))
def wp_X6_fault_12 (post : Int32 → CS → Prop) (x1 : Int32) (S : CS) : Prop :=
 wp_X6_knowLeaves S (fun S13 =>
 wp_X6_leastUnheld S13 (fun r17 S17 =>
 ((r17 = (-1 : Int32) →
 wp_X6_knowLoans S17 (fun S45 =>
 wp_X6_leastClashing S45 (fun r49 S49 =>
 ((¬ r49 = (-1 : Int32) →
 ((¬ x1 = (1 : Int32) →
 wp_X2_leastClash S49 r49 (fun r74 S74 =>
 post r74 S74)) ∧
 (x1 = (1 : Int32) →
 post r49 S49))) ∧
 (r49 = (-1 : Int32) →
 post (-1 : Int32) S49))))) ∧
 (¬ r17 = (-1 : Int32) →
 ((¬ x1 = (1 : Int32) →
 wp_X1_leastTaker S17 r17 (fun r40 S40 =>
 post r40 S40)) ∧
 (x1 = (1 : Int32) →
 post r17 S17))))))
def wp_X6_fault (S : CS) (x1 : Int32) (post : Int32 → CS → Prop) : Prop :=
 ((x1 = (1 : Int32) →
 wp_X6_fault_12 post x1 S) ∧
 (¬ x1 = (1 : Int32) →
 ((x1 = (2 : Int32) →
 wp_X6_fault_12 post x1 S) ∧
 (¬ x1 = (2 : Int32) →
 post (-1 : Int32) S))))
def wp_X6_comes (S : CS) (x1 : Int32) (post : Int32 → CS → Prop) : Prop :=
 wp_X6_isPoint S x1 (fun r1 S1 =>
 ((¬ r1 = 0 →
 wp_X6_knowWays S1 (fun S10 =>
 wp_X5_comeTo S10 x1 (fun r18 S18 =>
 wp_X6_answer S18 r18 (fun r21 S21 =>
 post r21 S21)))) ∧
 (r1 = 0 →
 post (-1 : Int32) S1)))
def wp_X4_hasLeaf (S : CS) (x1 : Int32) (x2 : Int32) (post : Int32 → CS → Prop) : Prop :=
 wp_X4_has S x1 (fun r2 S2 =>
 ((r2 = 0 →
 post (0 : Int32) S2) ∧
 (¬ r2 = 0 →
 ((x2 < 0 →
 post (0 : Int32) S2) ∧
 (¬ x2 < 0 →
 vp_in x1 16 ∧ (((gC_lcs S2 (x1).toNatClampNeg) ≤ x2 →
 post (0 : Int32) S2) ∧
 (¬ (gC_lcs S2 (x1).toNatClampNeg) ≤ x2 →
 post (1 : Int32) S2)))))))
def wp_X1_state (S : CS) (x1 : Int32) (x2 : Int64) (post : Int32 → CS → Prop) : Prop :=
 vp_in x1 150 ∧ (((lg_cmp ((gC_onAll S (x1).toNatClampNeg) &&& x2) (0 : Int64)) = 0 →
 vp_in x1 150 ∧ (((lg_cmp ((gC_onSome S (x1).toNatClampNeg) &&& x2) (0 : Int64)) = 0 →
 post (0 : Int32) S) ∧
 (¬ (lg_cmp ((gC_onSome S (x1).toNatClampNeg) &&& x2) (0 : Int64)) = 0 →
 post (2 : Int32) S))) ∧
 (¬ (lg_cmp ((gC_onAll S (x1).toNatClampNeg) &&& x2) (0 : Int64)) = 0 →
 post (1 : Int32) S))
def wp_X6_held (S : CS) (x1 : Int32) (x2 : Int32) (x3 : Int32) (post : Int32 → CS → Prop) : Prop :=
 wp_X6_isPoint S x1 (fun r1 S1 =>
 ((r1 = 0 →
 post (-1 : Int32) S1) ∧
 (¬ r1 = 0 →
 wp_X4_hasLeaf S1 x2 x3 (fun r13 S13 =>
 ((¬ r13 = 0 →
 wp_X6_knowLeaves S13 (fun S22 =>
 wp_X5_comeTo S22 x1 (fun r30 S30 =>
 ((r30 = 0 →
 post (-1 : Int32) S30) ∧
 (¬ r30 = 0 →
 wp_X6_leafBit S30 x2 x3 (fun r43 S43 =>
 wp_X1_state S43 x1 r43 (fun r46 S46 =>
 post r46 S46))))))) ∧
 (r13 = 0 →
 post (-1 : Int32) S13))))))
def wp_X6_isLoan (S : CS) (x1 : Int32) (post : Int32 → CS → Prop) : Prop :=
 wp_X6_isPoint S x1 (fun r1 S1 =>
 ((r1 = 0 →
 post (0 : Int32) S1) ∧
 (¬ r1 = 0 →
 wp_X0_makesLoan S1 x1 (fun r12 S12 =>
 ((r12 = 0 →
 post (0 : Int32) S12) ∧
 (¬ r12 = 0 →
 post (1 : Int32) S12))))))
def wp_X2_isHeldBy (S : CS) (x1 : Int32) (x2 : Int32) (x3 : Int32) (post : Int32 → CS → Prop) : Prop :=
 vp_in ((x1 * (16 : Int32)) + x2) 2400 ∧ vp_in x3 150 ∧ (((lg_cmp ((gC_holdings S ((x1 * (16 : Int32)) + x2).toNatClampNeg) &&& (gC_bits S (x3).toNatClampNeg)) (0 : Int64)) = 0 →
 post (0 : Int32) S) ∧
 (¬ (lg_cmp ((gC_holdings S ((x1 * (16 : Int32)) + x2).toNatClampNeg) &&& (gC_bits S (x3).toNatClampNeg)) (0 : Int64)) = 0 →
 post (1 : Int32) S))
def wp_X6_holds (S : CS) (x1 : Int32) (x2 : Int32) (x3 : Int32) (post : Int32 → CS → Prop) : Prop :=
 wp_X6_isPoint S x1 (fun r1 S1 =>
 ((r1 = 0 →
 post (-1 : Int32) S1) ∧
 (¬ r1 = 0 →
 wp_X4_isReference S1 x2 (fun r12 S12 =>
 ((r12 = 0 →
 post (-1 : Int32) S12) ∧
 (¬ r12 = 0 →
 wp_X6_isLoan S12 x3 (fun r20 S20 =>
 ((¬ r20 = 0 →
 wp_X6_knowLoans S20 (fun S29 =>
 wp_X2_isHeldBy S29 x1 x2 x3 (fun r39 S39 =>
 wp_X6_answer S39 r39 (fun r42 S42 =>
 post r42 S42)))) ∧
 (r20 = 0 →
 post (-1 : Int32) S20)))))))))
def wp_X2_isUsedBehind (S : CS) (x1 : Int32) (x2 : Int32) (post : Int32 → CS → Prop) : Prop :=
 vp_in x1 150 ∧ wp_X2_variableBit S x2 (fun r7 S7 =>
 ((((gC_usedL S (x1).toNatClampNeg) &&& r7) = 0 →
 post (0 : Int32) S7) ∧
 (¬ ((gC_usedL S (x1).toNatClampNeg) &&& r7) = 0 →
 post (1 : Int32) S7)))
def wp_X6_used (S : CS) (x1 : Int32) (x2 : Int32) (post : Int32 → CS → Prop) : Prop :=
 wp_X6_isPoint S x1 (fun r1 S1 =>
 ((r1 = 0 →
 post (-1 : Int32) S1) ∧
 (¬ r1 = 0 →
 wp_X4_isReference S1 x2 (fun r12 S12 =>
 ((¬ r12 = 0 →
 wp_X6_knowLoans S12 (fun S21 =>
 wp_X2_isUsedBehind S21 x1 x2 (fun r30 S30 =>
 wp_X6_answer S30 r30 (fun r33 S33 =>
 post r33 S33)))) ∧
 (r12 = 0 →
 post (-1 : Int32) S12))))))
def wp_X2_isInForce (S : CS) (x1 : Int32) (x2 : Int32) (post : Int32 → CS → Prop) : Prop :=
 wp_X2_inForce S x2 (fun r2 S2 =>
 vp_in x1 150 ∧ (((lg_cmp (r2 &&& (gC_bits S2 (x1).toNatClampNeg)) (0 : Int64)) = 0 →
 post (0 : Int32) S2) ∧
 (¬ (lg_cmp (r2 &&& (gC_bits S2 (x1).toNatClampNeg)) (0 : Int64)) = 0 →
 post (1 : Int32) S2)))
def wp_X6_force (S : CS) (x1 : Int32) (x2 : Int32) (post : Int32 → CS → Prop) : Prop :=
 wp_X6_isPoint S x2 (fun r1 S1 =>
 ((r1 = 0 →
 post (-1 : Int32) S1) ∧
 (¬ r1 = 0 →
 wp_X6_isLoan S1 x1 (fun r9 S9 =>
 ((¬ r9 = 0 →
 wp_X6_knowLoans S9 (fun S18 =>
 wp_X2_isInForce S18 x1 x2 (fun r27 S27 =>
 wp_X6_answer S27 r27 (fun r30 S30 =>
 post r30 S30)))) ∧
 (r9 = 0 →
 post (-1 : Int32) S9))))))
def wp_X2_size (S : CS) (post : Int32 → CS → Prop) : Prop :=
 post (gC_lmade S) S
def wp_J13_bitCount_95d88 (S : CS) (x0 : Int64) (post : Int32 → CS → Prop) : Prop :=
 ∀ x0_1 : Int64, x0_1 = x0 - (((x0.toUInt64 >>> ((1 : Int32).toInt64.toUInt64 &&& Int64.toUInt64 63)).toInt64) &&& (6148914691236517205 : Int64)) → ∀ x0_2 : Int64, x0_2 = (x0_1 &&& (3689348814741910323 : Int64)) + (((x0_1.toUInt64 >>> ((2 : Int32).toInt64.toUInt64 &&& Int64.toUInt64 63)).toInt64) &&& (3689348814741910323 : Int64)) → ∀ x0_3 : Int64, x0_3 = (x0_2 + ((x0_2.toUInt64 >>> ((4 : Int32).toInt64.toUInt64 &&& Int64.toUInt64 63)).toInt64)) &&& (1085102592571150095 : Int64) → ∀ x0_4 : Int64, x0_4 = x0_3 + ((x0_3.toUInt64 >>> ((8 : Int32).toInt64.toUInt64 &&& Int64.toUInt64 63)).toInt64) → ∀ x0_5 : Int64, x0_5 = x0_4 + ((x0_4.toUInt64 >>> ((16 : Int32).toInt64.toUInt64 &&& Int64.toUInt64 63)).toInt64) → ∀ x0_6 : Int64, x0_6 = x0_5 + ((x0_5.toUInt64 >>> ((32 : Int32).toInt64.toUInt64 &&& Int64.toUInt64 63)).toInt64) → post (x0_6.toInt32 &&& (127 : Int32)) S
def ws_X6_countInForce_4 (rec_ : Int32 → Int32 → CS → Prop) (post : Int32 → CS → Prop) (x1 : Int32) (x2 : Int32) (S : CS) : Prop :=
 (((150 : Int32) ≤ x2 →
 post x1 S) ∧
 (¬ (150 : Int32) ≤ x2 →
 wp_X2_inForce S x2 (fun r17 S17 =>
 wp_J13_bitCount_95d88 S17 r17 (fun r20 S20 =>
 ∀ x1_1 : Int32, x1_1 = x1 + r20 → ∀ x2_2 : Int32, x2_2 = x2 + (1 : Int32) → rec_ x1_1 x2_2 S20))))
def wp_X6_countInForce_4 (post : Int32 → CS → Prop) : Nat → Int32 → Int32 → CS → Prop
  | 0 => fun _ _ _ => False
  | n + 1 => ws_X6_countInForce_4 (wp_X6_countInForce_4 post n) post
def wp_X6_countInForce (S : CS) (post : Int32 → CS → Prop) : Prop :=
 (∃ n_, wp_X6_countInForce_4 post n_ (0 : Int32) (0 : Int32) S)
def wp_X6_countUnheld_30 (K4 : Int32 → Int32 → CS → Prop) (post : Int32 → CS → Prop) (x2 : Int32) (k0 : Int32) (k1 : Int32) (S : CS) : Prop :=
 wp_X6_answer S k0 (fun r30 S30 =>
 ∀ x1_1 : Int32, x1_1 = k1 + r30 → ∀ x2_2 : Int32, x2_2 = x2 + (1 : Int32) → K4 x1_1 x2_2 S30)
def ws_X6_countUnheld_4 (rec_ : Int32 → Int32 → CS → Prop) (post : Int32 → CS → Prop) (x1 : Int32) (x2 : Int32) (S : CS) : Prop :=
 (((150 : Int32) ≤ x2 →
 post x1 S) ∧
 (¬ (150 : Int32) ≤ x2 →
 wp_X1_missing S x2 (fun r17 S17 =>
 (((lg_cmp r17 (0 : Int64)) = 0 →
 wp_X6_countUnheld_30 rec_ post x2 (0 : Int32) x1 S17) ∧
 (¬ (lg_cmp r17 (0 : Int64)) = 0 →
 wp_X6_countUnheld_30 rec_ post x2 (1 : Int32) x1 S17)))))
def wp_X6_countUnheld_4 (post : Int32 → CS → Prop) : Nat → Int32 → Int32 → CS → Prop
  | 0 => fun _ _ _ => False
  | n + 1 => ws_X6_countUnheld_4 (wp_X6_countUnheld_4 post n) post
def wp_X6_countUnheld (S : CS) (post : Int32 → CS → Prop) : Prop :=
 (∃ n_, wp_X6_countUnheld_4 post n_ (0 : Int32) (0 : Int32) S)
def wp_X6_countClashing_29 (K4 : Int32 → Int32 → CS → Prop) (post : Int32 → CS → Prop) (x2 : Int32) (k0 : Int32) (k1 : Int32) (S : CS) : Prop :=
 wp_X6_answer S k0 (fun r29 S29 =>
 ∀ x1_1 : Int32, x1_1 = k1 + r29 → ∀ x2_2 : Int32, x2_2 = x2 + (1 : Int32) → K4 x1_1 x2_2 S29)
def ws_X6_countClashing_4 (rec_ : Int32 → Int32 → CS → Prop) (post : Int32 → CS → Prop) (x1 : Int32) (x2 : Int32) (S : CS) : Prop :=
 (((150 : Int32) ≤ x2 →
 post x1 S) ∧
 (¬ (150 : Int32) ≤ x2 →
 wp_X2_leastClash S x2 (fun r17 S17 =>
 ((r17 = (-1 : Int32) →
 wp_X6_countClashing_29 rec_ post x2 (0 : Int32) x1 S17) ∧
 (¬ r17 = (-1 : Int32) →
 wp_X6_countClashing_29 rec_ post x2 (1 : Int32) x1 S17)))))
def wp_X6_countClashing_4 (post : Int32 → CS → Prop) : Nat → Int32 → Int32 → CS → Prop
  | 0 => fun _ _ _ => False
  | n + 1 => ws_X6_countClashing_4 (wp_X6_countClashing_4 post n) post
def wp_X6_countClashing (S : CS) (post : Int32 → CS → Prop) : Prop :=
 (∃ n_, wp_X6_countClashing_4 post n_ (0 : Int32) (0 : Int32) S)
def wp_X6_count (S : CS) (x1 : Int32) (post : Int32 → CS → Prop) : Prop :=
 (((x1).toInt < 0 ∨ 5 < (x1).toInt →
 post (-1 : Int32) S) ∧
 (x1 = 0 →
 wp_X4_size S (fun r44 S44 =>
 post r44 S44)) ∧
 (x1 = 1 →
 wp_X6_knowLoans S (fun S49 =>
 wp_X2_size S49 (fun r56 S56 =>
 post r56 S56))) ∧
 (x1 = 2 →
 wp_X6_knowWays S (fun S61 =>
 wp_X5_size S61 (fun r68 S68 =>
 post r68 S68))) ∧
 (x1 = 3 →
 wp_X6_knowLoans S (fun S73 =>
 wp_X6_countInForce S73 (fun r77 S77 =>
 post r77 S77))) ∧
 (x1 = 4 →
 wp_X6_knowLeaves S (fun S82 =>
 wp_X6_countUnheld S82 (fun r86 S86 =>
 post r86 S86))) ∧
 (x1 = 5 →
 wp_X6_knowLoans S (fun S91 =>
 wp_X6_countClashing S91 (fun r95 S95 =>
 post r95 S95))))
def wp_X7_in (S : MS) (x0 : Int32) (x1 : Int32) (x2 : Int32) (post : Int32 → MS → Prop) : Prop :=
 ((x0 < x1 →
 post (0 : Int32) S) ∧
 (¬ x0 < x1 →
 ((x2 < x0 →
 post (0 : Int32) S) ∧
 (¬ x2 < x0 →
 post (1 : Int32) S))))
def wp_X7_variable_20 (post : Int32 → MS → Prop) (x1 : Int32) (x2 : Int32) (k0 : Int32) (k1 : Int32) (k2 : Int32) (S : MS) : Prop :=
 wp_X7_in S k2 k1 k0 (fun r20 S20 =>
 ((r20 = 0 →
 post (-1 : Int32) S20) ∧
 (¬ r20 = 0 →
 ((¬ (gM_nv S20) = (16 : Int32) →
 vp_in (gM_nv S20) 16 ∧ ∀ S_1 : MS, S_1 = sM_sort S20 (upd (gM_sort S20) (gM_nv S20).toNatClampNeg x1) → vp_in (gM_nv S_1) 16 ∧ ∀ S_2 : MS, S_2 = sM_lvs S_1 (upd (gM_lvs S_1) (gM_nv S_1).toNatClampNeg x2) → vp_in (gM_nv S_2) 16 ∧ ∀ S_3 : MS, S_3 = sM_atF S_2 (upd (gM_atF S_2) (gM_nv S_2).toNatClampNeg (vp_nar .boolean (0 : Int32))) → ∀ S_4 : MS, S_4 = sM_nv S_3 ((gM_nv S_3) + (1 : Int32)) → ∀ S_5 : MS, S_5 = sM_isOld S_4 (1 : Int32) → post ((gM_nv S_5) - (1 : Int32)) S_5) ∧
 ((gM_nv S20) = (16 : Int32) →
 post (-1 : Int32) S20)))))
def wp_X7_variable (S : MS) (x1 : Int32) (x2 : Int32) (post : Int32 → MS → Prop) : Prop :=
 wp_X7_in S x1 (0 : Int32) (2 : Int32) (fun r3 S3 =>
 ((r3 = 0 →
 post (-1 : Int32) S3) ∧
 (¬ r3 = 0 →
 ((¬ x1 = 0 →
 wp_X7_variable_20 post x1 x2 (1 : Int32) (1 : Int32) x2 S3) ∧
 (x1 = 0 →
 wp_X7_variable_20 post x1 x2 (4 : Int32) (1 : Int32) x2 S3)))))
def wp_X7_isVariable (S : MS) (x1 : Int32) (post : Int32 → MS → Prop) : Prop :=
 wp_X7_in S x1 (0 : Int32) ((gM_nv S) - (1 : Int32)) (fun r8 S8 =>
 isb r8 ∧ post r8 S8)
def wp_X7_begins (S : MS) (x1 : Int32) (x2 : Int32) (post : Int32 → MS → Prop) : Prop :=
 wp_X7_isVariable S x1 (fun r2 S2 =>
 ((¬ r2 = 0 →
 vp_in x1 16 ∧ ∀ S_1 : MS, S_1 = sM_atF S2 (upd (gM_atF S2) (x1).toNatClampNeg (vp_nar .boolean x2)) → ∀ S_2 : MS, S_2 = sM_isOld S_1 (1 : Int32) → post (1 : Int32) S_2) ∧
 (r2 = 0 →
 post (-1 : Int32) S2)))
def wp_X7_become (S : MS) (x1 : Int32) (x2 : Int32) (x3 : Int32) (x4 : Int32) (x5 : Int32) (post : MS → Prop) : Prop :=
 vp_in x1 150 ∧ ∀ S_1 : MS, S_1 = sM_acts S (upd (gM_acts S) (x1).toNatClampNeg x2) → vp_in x1 150 ∧ ∀ S_2 : MS, S_2 = sM_of S_1 (upd (gM_of S_1) (x1).toNatClampNeg x3) → vp_in x1 150 ∧ ∀ S_3 : MS, S_3 = sM_path S_2 (upd (gM_path S_2) (x1).toNatClampNeg x4) → vp_in x1 150 ∧ ∀ S_4 : MS, S_4 = sM_to S_3 (upd (gM_to S_3) (x1).toNatClampNeg x5) → ∀ S_5 : MS, S_5 = sM_isOld S_4 (1 : Int32) → post S_5
def wp_X7_isPoint (S : MS) (x0 : Int32) (post : Int32 → MS → Prop) : Prop :=
 wp_X7_in S x0 (0 : Int32) (149 : Int32) (fun r5 S5 =>
 isb r5 ∧ post r5 S5)
def wp_X7_isPath_46 (K17 : Int32 → Int32 → MS → Prop) (post : Int32 → MS → Prop) (x1 : Int32) (k0 : Int32) (S : MS) : Prop :=
 ∀ x1_1 : Int32, x1_1 = x1 / (8 : Int32) → K17 x1_1 k0 S
def wp_X7_isPath_45 (K46 : Int32 → Int32 → MS → Prop) (post : Int32 → MS → Prop) (x1 : Int32) (S : MS) : Prop :=
 K46 x1 (0 : Int32) S
def ws_X7_isPath_17 (rec_ : Int32 → Int32 → MS → Prop) (post : Int32 → MS → Prop) (x1 : Int32) (x2 : Int32) (S : MS) : Prop :=
 ((x1 ≤ 0 →
 isb x2 ∧ post x2 S) ∧
 (¬ x1 ≤ 0 →
 ((x2 = 0 →
 wp_X7_isPath_45 (fun x1 k0 S => wp_X7_isPath_46 rec_ post x1 k0 S) post x1 S) ∧
 (¬ x2 = 0 →
 (((x1 - x1 / (8 : Int32) * (8 : Int32)) ≤ 0 →
 wp_X7_isPath_45 (fun x1 k0 S => wp_X7_isPath_46 rec_ post x1 k0 S) post x1 S) ∧
 (¬ (x1 - x1 / (8 : Int32) * (8 : Int32)) ≤ 0 →
 (((7 : Int32) ≤ (x1 - x1 / (8 : Int32) * (8 : Int32)) →
 wp_X7_isPath_45 (fun x1 k0 S => wp_X7_isPath_46 rec_ post x1 k0 S) post x1 S) ∧
 (¬ (7 : Int32) ≤ (x1 - x1 / (8 : Int32) * (8 : Int32)) →
 wp_X7_isPath_46 rec_ post x1 (1 : Int32) S))))))))
def wp_X7_isPath_17 (post : Int32 → MS → Prop) : Nat → Int32 → Int32 → MS → Prop
  | 0 => fun _ _ _ => False
  | n + 1 => ws_X7_isPath_17 (wp_X7_isPath_17 post n) post
def wp_X7_isPath (S : MS) (x0 : Int32) (post : Int32 → MS → Prop) : Prop :=
 wp_X7_in S x0 (0 : Int32) (4095 : Int32) (fun r5 S5 =>
 ((¬ r5 = 0 →
 (∃ n_, wp_X7_isPath_17 post n_ x0 (1 : Int32) S5)) ∧
 (r5 = 0 →
 post (0 : Int32) S5)))
def wp_X7_isPlace (S : MS) (x1 : Int32) (x2 : Int32) (post : Int32 → MS → Prop) : Prop :=
 wp_X7_isVariable S x1 (fun r2 S2 =>
 ((r2 = 0 →
 post (0 : Int32) S2) ∧
 (¬ r2 = 0 →
 wp_X7_isPath S2 x2 (fun r9 S9 =>
 ((¬ r9 = 0 →
 vp_in x1 16 ∧ (((gM_sort S9 (x1).toNatClampNeg) = 0 →
 vp_in x1 16 ∧ (((gM_lvs S9 (x1).toNatClampNeg) = (1 : Int32) →
 post (1 : Int32) S9) ∧
 (¬ (gM_lvs S9 (x1).toNatClampNeg) = (1 : Int32) →
 ((x2 = 0 →
 post (1 : Int32) S9) ∧
 (¬ x2 = 0 →
 vp_in x1 16 ∧ (((gM_lvs S9 (x1).toNatClampNeg) < (x2 - x2 / (8 : Int32) * (8 : Int32)) →
 post (0 : Int32) S9) ∧
 (¬ (gM_lvs S9 (x1).toNatClampNeg) < (x2 - x2 / (8 : Int32) * (8 : Int32)) →
 post (1 : Int32) S9))))))) ∧
 (¬ (gM_sort S9 (x1).toNatClampNeg) = 0 →
 ((x2 = 0 →
 post (1 : Int32) S9) ∧
 (¬ x2 = 0 →
 ((¬ (x2 - x2 / (8 : Int32) * (8 : Int32)) = (5 : Int32) →
 post (0 : Int32) S9) ∧
 ((x2 - x2 / (8 : Int32) * (8 : Int32)) = (5 : Int32) →
 post (1 : Int32) S9))))))) ∧
 (r9 = 0 →
 post (0 : Int32) S9))))))
def wp_X7_isWithin (S : MS) (x1 : Int32) (x2 : Int32) (post : Int32 → MS → Prop) : Prop :=
 vp_in x1 16 ∧ (((gM_lvs S (x1).toNatClampNeg) ≤ (1 : Int32) →
 ((x2 ≤ 0 →
 post (0 : Int32) S) ∧
 (¬ x2 ≤ 0 →
 post (1 : Int32) S))) ∧
 (¬ (gM_lvs S (x1).toNatClampNeg) ≤ (1 : Int32) →
 ((x2 < (8 : Int32) →
 post (0 : Int32) S) ∧
 (¬ x2 < (8 : Int32) →
 post (1 : Int32) S))))
def wp_X7_act_130 (post : Int32 → MS → Prop) (x1 : Int32) (x2 : Int32) (x3 : Int32) (x4 : Int32) (S : MS) : Prop :=
 wp_X7_become S x1 x2 x3 x4 (-1 : Int32) (fun S137 =>
 post (1 : Int32) S137)
def wp_X7_act_113 (K130 : Int32 → Int32 → Int32 → Int32 → MS → Prop) (post : Int32 → MS → Prop) (x1 : Int32) (x2 : Int32) (x3 : Int32) (x4 : Int32) (S : MS) : Prop :=
 ((x2 = (1 : Int32) →
 K130 x1 x2 x3 x4 S) ∧
 (¬ x2 = (1 : Int32) →
 vp_in x3 16 ∧ ((¬ (gM_sort S (x3).toNatClampNeg) = (1 : Int32) →
 K130 x1 x2 x3 x4 S) ∧
 ((gM_sort S (x3).toNatClampNeg) = (1 : Int32) →
 post (-1 : Int32) S))))
def wp_X7_act (S : MS) (x1 : Int32) (x2 : Int32) (x3 : Int32) (x4 : Int32) (post : Int32 → MS → Prop) : Prop :=
 wp_X7_isPoint S x1 (fun r1 S1 =>
 ((r1 = 0 →
 post (-1 : Int32) S1) ∧
 (¬ r1 = 0 →
 wp_X7_in S1 x2 (0 : Int32) (6 : Int32) (fun r11 S11 =>
 ((¬ r11 = 0 →
 ((¬ x2 = 0 →
 ((x2 < (5 : Int32) →
 wp_X7_isPlace S11 x3 x4 (fun r64 S64 =>
 ((¬ r64 = 0 →
 ((¬ x2 = (2 : Int32) →
 vp_in x3 16 ∧ (((gM_sort S64 (x3).toNatClampNeg) = 0 →
 wp_X7_act_113 (fun x1 x2 x3 x4 S => wp_X7_act_130 post x1 x2 x3 x4 S) post x1 x2 x3 x4 S64) ∧
 (¬ (gM_sort S64 (x3).toNatClampNeg) = 0 →
 ((x4 = 0 →
 post (-1 : Int32) S64) ∧
 (¬ x4 = 0 →
 wp_X7_act_113 (fun x1 x2 x3 x4 S => wp_X7_act_130 post x1 x2 x3 x4 S) post x1 x2 x3 x4 S64))))) ∧
 (x2 = (2 : Int32) →
 vp_in x3 16 ∧ ((¬ (gM_sort S64 (x3).toNatClampNeg) = 0 →
 post (-1 : Int32) S64) ∧
 ((gM_sort S64 (x3).toNatClampNeg) = 0 →
 wp_X7_isWithin S64 x3 x4 (fun r90 S90 =>
 ((r90 = 0 →
 wp_X7_act_130 post x1 x2 x3 x4 S90) ∧
 (¬ r90 = 0 →
 post (-1 : Int32) S90)))))))) ∧
 (r64 = 0 →
 post (-1 : Int32) S64)))) ∧
 (¬ x2 < (5 : Int32) →
 wp_X7_isVariable S11 x3 (fun r41 S41 =>
 ((¬ r41 = 0 →
 wp_X7_become S41 x1 x2 x3 (0 : Int32) (-1 : Int32) (fun S55 =>
 post (1 : Int32) S55)) ∧
 (r41 = 0 →
 post (-1 : Int32) S41)))))) ∧
 (x2 = 0 →
 wp_X7_become S11 x1 x2 (-1 : Int32) (0 : Int32) (-1 : Int32) (fun S29 =>
 post (1 : Int32) S29)))) ∧
 (r11 = 0 →
 post (-1 : Int32) S11))))))
def wp_X7_isReference (S : MS) (x1 : Int32) (post : Int32 → MS → Prop) : Prop :=
 wp_X7_isVariable S x1 (fun r2 S2 =>
 ((r2 = 0 →
 post (0 : Int32) S2) ∧
 (¬ r2 = 0 →
 vp_in x1 16 ∧ (((gM_sort S2 (x1).toNatClampNeg) = 0 →
 post (0 : Int32) S2) ∧
 (¬ (gM_sort S2 (x1).toNatClampNeg) = 0 →
 post (1 : Int32) S2)))))
def wp_X7_lend_100 (K67 : Int32 → Int32 → Int32 → Int32 → Int32 → Int32 → MS → Prop) (post : Int32 → MS → Prop) (x1 : Int32) (x2 : Int32) (x3 : Int32) (x4 : Int32) (x6 : Int32) (k0 : Int32) (k1 : Int32) (S : MS) : Prop :=
 ∀ x5_1 : Int32, x5_1 = k1 + k0 → ∀ x6_2 : Int32, x6_2 = x6 + (1 : Int32) → K67 x1 x2 x3 x4 x5_1 x6_2 S
def wp_X7_lend_99 (K100 : Int32 → Int32 → Int32 → Int32 → Int32 → Int32 → Int32 → MS → Prop) (post : Int32 → MS → Prop) (x1 : Int32) (x2 : Int32) (x3 : Int32) (x4 : Int32) (x6 : Int32) (k0 : Int32) (S : MS) : Prop :=
 K100 x1 x2 x3 x4 x6 (0 : Int32) k0 S
def ws_X7_lend_67 (rec_ : Int32 → Int32 → Int32 → Int32 → Int32 → Int32 → MS → Prop) (post : Int32 → MS → Prop) (x1 : Int32) (x2 : Int32) (x3 : Int32) (x4 : Int32) (x5 : Int32) (x6 : Int32) (S : MS) : Prop :=
 (((150 : Int32) ≤ x6 →
 ((x5 < (60 : Int32) →
 wp_X7_become S x1 (7 : Int32) x3 x4 x2 (fun S126 =>
 post (1 : Int32) S126)) ∧
 (¬ x5 < (60 : Int32) →
 post (-1 : Int32) S))) ∧
 (¬ (150 : Int32) ≤ x6 →
 ((x6 = x1 →
 wp_X7_lend_99 (fun x1 x2 x3 x4 x6 k0 k1 S => wp_X7_lend_100 rec_ post x1 x2 x3 x4 x6 k0 k1 S) post x1 x2 x3 x4 x6 x5 S) ∧
 (¬ x6 = x1 →
 vp_in x6 150 ∧ ((¬ (gM_acts S (x6).toNatClampNeg) = (7 : Int32) →
 wp_X7_lend_99 (fun x1 x2 x3 x4 x6 k0 k1 S => wp_X7_lend_100 rec_ post x1 x2 x3 x4 x6 k0 k1 S) post x1 x2 x3 x4 x6 x5 S) ∧
 ((gM_acts S (x6).toNatClampNeg) = (7 : Int32) →
 wp_X7_lend_100 rec_ post x1 x2 x3 x4 x6 (1 : Int32) x5 S))))))
def wp_X7_lend_67 (post : Int32 → MS → Prop) : Nat → Int32 → Int32 → Int32 → Int32 → Int32 → Int32 → MS → Prop
  | 0 => fun _ _ _ _ _ _ _ => False
  | n + 1 => ws_X7_lend_67 (wp_X7_lend_67 post n) post
def wp_X7_lend_61 (post : Int32 → MS → Prop) (x1 : Int32) (x2 : Int32) (x3 : Int32) (x4 : Int32) (S : MS) : Prop :=
 (∃ n_, wp_X7_lend_67 post n_ x1 x2 x3 x4 (0 : Int32) (0 : Int32) S)
def wp_X7_lend_39 (post : Int32 → MS → Prop) (x1 : Int32) (x2 : Int32) (x3 : Int32) (x4 : Int32) (S : MS) : Prop :=
 vp_in x2 16 ∧ ((¬ (gM_sort S (x2).toNatClampNeg) = (2 : Int32) →
 wp_X7_lend_61 post x1 x2 x3 x4 S) ∧
 ((gM_sort S (x2).toNatClampNeg) = (2 : Int32) →
 vp_in x3 16 ∧ ((¬ (gM_sort S (x3).toNatClampNeg) = (1 : Int32) →
 wp_X7_lend_61 post x1 x2 x3 x4 S) ∧
 ((gM_sort S (x3).toNatClampNeg) = (1 : Int32) →
 post (-1 : Int32) S))))
def wp_X7_lend (S : MS) (x1 : Int32) (x2 : Int32) (x3 : Int32) (x4 : Int32) (post : Int32 → MS → Prop) : Prop :=
 wp_X7_isPoint S x1 (fun r1 S1 =>
 ((r1 = 0 →
 post (-1 : Int32) S1) ∧
 (¬ r1 = 0 →
 wp_X7_isReference S1 x2 (fun r9 S9 =>
 ((r9 = 0 →
 post (-1 : Int32) S9) ∧
 (¬ r9 = 0 →
 wp_X7_isPlace S9 x3 x4 (fun r19 S19 =>
 ((r19 = 0 →
 post (-1 : Int32) S19) ∧
 (¬ r19 = 0 →
 vp_in x3 16 ∧ (((gM_sort S19 (x3).toNatClampNeg) = 0 →
 wp_X7_lend_39 post x1 x2 x3 x4 S19) ∧
 (¬ (gM_sort S19 (x3).toNatClampNeg) = 0 →
 ((x4 = 0 →
 post (-1 : Int32) S19) ∧
 (¬ x4 = 0 →
 wp_X7_lend_39 post x1 x2 x3 x4 S19)))))))))))))
def wp_X7_copy (S : MS) (x1 : Int32) (x2 : Int32) (x3 : Int32) (post : Int32 → MS → Prop) : Prop :=
 wp_X7_isPoint S x1 (fun r1 S1 =>
 ((r1 = 0 →
 post (-1 : Int32) S1) ∧
 (¬ r1 = 0 →
 wp_X7_isReference S1 x2 (fun r9 S9 =>
 ((r9 = 0 →
 post (-1 : Int32) S9) ∧
 (¬ r9 = 0 →
 wp_X7_isReference S9 x3 (fun r17 S17 =>
 ((r17 = 0 →
 post (-1 : Int32) S17) ∧
 (¬ r17 = 0 →
 ((x2 = x3 →
 post (-1 : Int32) S17) ∧
 (¬ x2 = x3 →
 vp_in x2 16 ∧ vp_in x3 16 ∧ (((gM_sort S17 (x2).toNatClampNeg) = (gM_sort S17 (x3).toNatClampNeg) →
 wp_X7_become S17 x1 (8 : Int32) x3 (0 : Int32) x2 (fun S52 =>
 post (1 : Int32) S52)) ∧
 (¬ (gM_sort S17 (x2).toNatClampNeg) = (gM_sort S17 (x3).toNatClampNeg) →
 post (-1 : Int32) S17)))))))))))))
def wp_X7_next_69 (K25 : Int32 → Int32 → Int32 → Int32 → Int32 → Int32 → MS → Prop) (post : Int32 → MS → Prop) (x1 : Int32) (x2 : Int32) (x3 : Int32) (x4 : Int32) (x5 : Int32) (x6 : Int32) (S : MS) : Prop :=
 ∀ x6_1 : Int32, x6_1 = x6 + (1 : Int32) → K25 x1 x2 x3 x4 x5 x6_1 S
def wp_X7_next_50 (K25 : Int32 → Int32 → Int32 → Int32 → Int32 → Int32 → MS → Prop) (post : Int32 → MS → Prop) (x1 : Int32) (x2 : Int32) (x3 : Int32) (x4 : Int32) (x5 : Int32) (x6 : Int32) (S : MS) : Prop :=
 vp_in (((4 : Int32) * x1) + x6) 600 ∧ ((¬ (gM_nexts S (((4 : Int32) * x1) + x6).toNatClampNeg) = (-1 : Int32) →
 wp_X7_next_69 K25 post x1 x2 x3 x4 x5 x6 S) ∧
 ((gM_nexts S (((4 : Int32) * x1) + x6).toNatClampNeg) = (-1 : Int32) →
 wp_X7_next_69 K25 post x1 x2 x3 x4 x6 x6 S))
def wp_X7_next_137 (post : Int32 → MS → Prop) (S : MS) : Prop :=
 ∀ S_1 : MS, S_1 = sM_isOld S (1 : Int32) → post (1 : Int32) S_1
def wp_X7_next_115 (post : Int32 → MS → Prop) (x1 : Int32) (x3 : Int32) (x4 : Int32) (S : MS) : Prop :=
 ((¬ x3 = 0 →
 wp_X7_next_137 post S) ∧
 (x3 = 0 →
 ((x4 = (-1 : Int32) →
 wp_X7_next_137 post S) ∧
 (¬ x4 = (-1 : Int32) →
 vp_in (((4 : Int32) * x1) + x4) 600 ∧ ∀ S_1 : MS, S_1 = sM_nexts S (upd (gM_nexts S) (((4 : Int32) * x1) + x4).toNatClampNeg (-1 : Int32)) → wp_X7_next_137 post S_1))))
def wp_X7_next_93 (post : Int32 → MS → Prop) (x1 : Int32) (x2 : Int32) (x3 : Int32) (x4 : Int32) (x5 : Int32) (S : MS) : Prop :=
 ((x3 = 0 →
 wp_X7_next_115 post x1 x3 x4 S) ∧
 (¬ x3 = 0 →
 ((¬ x4 = (-1 : Int32) →
 wp_X7_next_115 post x1 x3 x4 S) ∧
 (x4 = (-1 : Int32) →
 vp_in (((4 : Int32) * x1) + x5) 600 ∧ ∀ S_1 : MS, S_1 = sM_nexts S (upd (gM_nexts S) (((4 : Int32) * x1) + x5).toNatClampNeg x2) → wp_X7_next_115 post x1 x3 x4 S_1))))
def ws_X7_next_25 (rec_ : Int32 → Int32 → Int32 → Int32 → Int32 → Int32 → MS → Prop) (post : Int32 → MS → Prop) (x1 : Int32) (x2 : Int32) (x3 : Int32) (x4 : Int32) (x5 : Int32) (x6 : Int32) (S : MS) : Prop :=
 (((4 : Int32) ≤ x6 →
 ((x3 = 0 →
 wp_X7_next_93 post x1 x2 x3 x4 x5 S) ∧
 (¬ x3 = 0 →
 ((¬ x4 = (-1 : Int32) →
 wp_X7_next_93 post x1 x2 x3 x4 x5 S) ∧
 (x4 = (-1 : Int32) →
 ((¬ x5 = (-1 : Int32) →
 wp_X7_next_93 post x1 x2 x3 x4 x5 S) ∧
 (x5 = (-1 : Int32) →
 post (-1 : Int32) S))))))) ∧
 (¬ (4 : Int32) ≤ x6 →
 vp_in (((4 : Int32) * x1) + x6) 600 ∧ ((¬ (gM_nexts S (((4 : Int32) * x1) + x6).toNatClampNeg) = x2 →
 wp_X7_next_50 rec_ post x1 x2 x3 x4 x5 x6 S) ∧
 ((gM_nexts S (((4 : Int32) * x1) + x6).toNatClampNeg) = x2 →
 wp_X7_next_50 rec_ post x1 x2 x3 x6 x5 x6 S))))
def wp_X7_next_25 (post : Int32 → MS → Prop) : Nat → Int32 → Int32 → Int32 → Int32 → Int32 → Int32 → MS → Prop
  | 0 => fun _ _ _ _ _ _ _ => False
  | n + 1 => ws_X7_next_25 (wp_X7_next_25 post n) post
def wp_X7_next (S : MS) (x1 : Int32) (x2 : Int32) (x3 : Int32) (post : Int32 → MS → Prop) : Prop :=
 wp_X7_isPoint S x1 (fun r1 S1 =>
 ((r1 = 0 →
 post (-1 : Int32) S1) ∧
 (¬ r1 = 0 →
 wp_X7_isPoint S1 x2 (fun r8 S8 =>
 ((¬ r8 = 0 →
 (∃ n_, wp_X7_next_25 post n_ x1 x2 x3 (-1 : Int32) (-1 : Int32) (0 : Int32) S8)) ∧
 (r8 = 0 →
 post (-1 : Int32) S8))))))
def wp_X7_isThrough (S : MS) (x1 : Int32) (x2 : Int32) (post : Int32 → MS → Prop) : Prop :=
 vp_in x1 16 ∧ (((gM_sort S (x1).toNatClampNeg) = 0 →
 post (0 : Int32) S) ∧
 (¬ (gM_sort S (x1).toNatClampNeg) = 0 →
 ((x2 ≤ 0 →
 post (0 : Int32) S) ∧
 (¬ x2 ≤ 0 →
 post (1 : Int32) S))))
def wp_X7_uses (S : MS) (x1 : Int32) (x2 : Int32) (post : Int32 → MS → Prop) : Prop :=
 vp_in x1 150 ∧ ((¬ (gM_acts S (x1).toNatClampNeg) = (8 : Int32) →
 vp_in x1 150 ∧ (((gM_acts S (x1).toNatClampNeg) = 0 →
 post (0 : Int32) S) ∧
 (¬ (gM_acts S (x1).toNatClampNeg) = 0 →
 vp_in x1 150 ∧ (((gM_acts S (x1).toNatClampNeg) = (5 : Int32) →
 post (0 : Int32) S) ∧
 (¬ (gM_acts S (x1).toNatClampNeg) = (5 : Int32) →
 vp_in x1 150 ∧ (((gM_acts S (x1).toNatClampNeg) = (6 : Int32) →
 post (0 : Int32) S) ∧
 (¬ (gM_acts S (x1).toNatClampNeg) = (6 : Int32) →
 vp_in x1 150 ∧ ((¬ (gM_of S (x1).toNatClampNeg) = x2 →
 post (0 : Int32) S) ∧
 ((gM_of S (x1).toNatClampNeg) = x2 →
 vp_in x1 150 ∧ wp_X7_isThrough S x2 (gM_path S (x1).toNatClampNeg) (fun r77 S77 =>
 ((r77 = 0 →
 post (0 : Int32) S77) ∧
 (¬ r77 = 0 →
 post (1 : Int32) S77)))))))))))) ∧
 ((gM_acts S (x1).toNatClampNeg) = (8 : Int32) →
 vp_in x1 150 ∧ ((¬ (gM_of S (x1).toNatClampNeg) = x2 →
 post (0 : Int32) S) ∧
 ((gM_of S (x1).toNatClampNeg) = x2 →
 post (1 : Int32) S))))
def wp_X7_renews_32 (post : Int32 → MS → Prop) (x1 : Int32) (x2 : Int32) (S : MS) : Prop :=
 vp_in x1 150 ∧ ((¬ (gM_acts S (x1).toNatClampNeg) = (5 : Int32) →
 post (0 : Int32) S) ∧
 ((gM_acts S (x1).toNatClampNeg) = (5 : Int32) →
 vp_in x1 150 ∧ ((¬ (gM_of S (x1).toNatClampNeg) = x2 →
 post (0 : Int32) S) ∧
 ((gM_of S (x1).toNatClampNeg) = x2 →
 post (1 : Int32) S))))
def wp_X7_renews_22 (K32 : Int32 → Int32 → MS → Prop) (post : Int32 → MS → Prop) (x1 : Int32) (x2 : Int32) (S : MS) : Prop :=
 vp_in x1 150 ∧ (((gM_to S (x1).toNatClampNeg) = x2 →
 post (1 : Int32) S) ∧
 (¬ (gM_to S (x1).toNatClampNeg) = x2 →
 K32 x1 x2 S))
def wp_X7_renews (S : MS) (x1 : Int32) (x2 : Int32) (post : Int32 → MS → Prop) : Prop :=
 vp_in x1 150 ∧ (((gM_acts S (x1).toNatClampNeg) = (7 : Int32) →
 wp_X7_renews_22 (fun x1 x2 S => wp_X7_renews_32 post x1 x2 S) post x1 x2 S) ∧
 (¬ (gM_acts S (x1).toNatClampNeg) = (7 : Int32) →
 vp_in x1 150 ∧ ((¬ (gM_acts S (x1).toNatClampNeg) = (8 : Int32) →
 wp_X7_renews_32 post x1 x2 S) ∧
 ((gM_acts S (x1).toNatClampNeg) = (8 : Int32) →
 wp_X7_renews_22 (fun x1 x2 S => wp_X7_renews_32 post x1 x2 S) post x1 x2 S))))
def wp_X7_walkUses_155 (K39 : Int32 → Int32 → Int32 → MS → Prop) (post : MS → Prop) (x1 : Int32) (x2 : Int32) (x3 : Int32) (S : MS) : Prop :=
 ∀ x3_1 : Int32, x3_1 = x3 + (-1 : Int32) → K39 x1 x2 x3_1 S
def wp_X7_walkUses_149 (K72 : Int32 → Int32 → Int32 → Int32 → MS → Prop) (post : MS → Prop) (x1 : Int32) (x2 : Int32) (x3 : Int32) (x4 : Int32) (S : MS) : Prop :=
 ∀ x4_1 : Int32, x4_1 = x4 + (1 : Int32) → K72 x1 x2 x3 x4_1 S
def wp_X7_walkUses_135 (K149 : Int32 → Int32 → Int32 → Int32 → MS → Prop) (post : MS → Prop) (x1 : Int32) (x3 : Int32) (x4 : Int32) (S : MS) : Prop :=
 vp_in (((16 : Int32) * x3) + x1) 2400 ∧ ∀ S_1 : MS, S_1 = sM_used S (upd (gM_used S) (((16 : Int32) * x3) + x1).toNatClampNeg (vp_nar .boolean (1 : Int32))) → K149 x1 (1 : Int32) x3 x4 S_1
def ws_X7_walkUses_72 (rec_ : Int32 → Int32 → Int32 → Int32 → MS → Prop) (K155 : Int32 → Int32 → Int32 → MS → Prop) (post : MS → Prop) (x1 : Int32) (x2 : Int32) (x3 : Int32) (x4 : Int32) (S : MS) : Prop :=
 (((4 : Int32) ≤ x4 →
 K155 x1 x2 x3 S) ∧
 (¬ (4 : Int32) ≤ x4 →
 vp_in (((4 : Int32) * x3) + x4) 600 ∧ ∀ x5_1 : Int32, x5_1 = gM_nexts S (((4 : Int32) * x3) + x4).toNatClampNeg → ((x5_1 = (-1 : Int32) →
 wp_X7_walkUses_149 rec_ post x1 x2 x3 x4 S) ∧
 (¬ x5_1 = (-1 : Int32) →
 wp_X7_uses S x5_1 x1 (fun r101 S101 =>
 ((¬ r101 = 0 →
 wp_X7_walkUses_135 (fun x1 x2 x3 x4 S => wp_X7_walkUses_149 rec_ post x1 x2 x3 x4 S) post x1 x3 x4 S101) ∧
 (r101 = 0 →
 wp_X7_renews S101 x5_1 x1 (fun r111 S111 =>
 ((¬ r111 = 0 →
 wp_X7_walkUses_149 rec_ post x1 x2 x3 x4 S111) ∧
 (r111 = 0 →
 vp_in (((16 : Int32) * x5_1) + x1) 2400 ∧ ((¬ (gM_used S111 (((16 : Int32) * x5_1) + x1).toNatClampNeg) = 0 →
 wp_X7_walkUses_135 (fun x1 x2 x3 x4 S => wp_X7_walkUses_149 rec_ post x1 x2 x3 x4 S) post x1 x3 x4 S111) ∧
 ((gM_used S111 (((16 : Int32) * x5_1) + x1).toNatClampNeg) = 0 →
 wp_X7_walkUses_149 rec_ post x1 x2 x3 x4 S111))))))))))))
def wp_X7_walkUses_72 (K155 : Int32 → Int32 → Int32 → MS → Prop) (post : MS → Prop) : Nat → Int32 → Int32 → Int32 → Int32 → MS → Prop
  | 0 => fun _ _ _ _ _ => False
  | n + 1 => ws_X7_walkUses_72 (wp_X7_walkUses_72 K155 post n) K155 post
def ws_X7_walkUses_39 (rec_ : Int32 → Int32 → Int32 → MS → Prop) (K29 : Int32 → Int32 → MS → Prop) (post : MS → Prop) (x1 : Int32) (x2 : Int32) (x3 : Int32) (S : MS) : Prop :=
 ((x3 < 0 →
 K29 x1 x2 S) ∧
 (¬ x3 < 0 →
 vp_in x3 150 ∧ (((gM_come S (x3).toNatClampNeg) = 0 →
 wp_X7_walkUses_155 rec_ post x1 x2 x3 S) ∧
 (¬ (gM_come S (x3).toNatClampNeg) = 0 →
 vp_in (((16 : Int32) * x3) + x1) 2400 ∧ (((gM_used S (((16 : Int32) * x3) + x1).toNatClampNeg) = 0 →
 (∃ n_, wp_X7_walkUses_72 (fun x1 x2 x3 S => wp_X7_walkUses_155 rec_ post x1 x2 x3 S) post n_ x1 x2 x3 (0 : Int32) S)) ∧
 (¬ (gM_used S (((16 : Int32) * x3) + x1).toNatClampNeg) = 0 →
 wp_X7_walkUses_155 rec_ post x1 x2 x3 S))))))
def wp_X7_walkUses_39 (K29 : Int32 → Int32 → MS → Prop) (post : MS → Prop) : Nat → Int32 → Int32 → Int32 → MS → Prop
  | 0 => fun _ _ _ _ => False
  | n + 1 => ws_X7_walkUses_39 (wp_X7_walkUses_39 K29 post n) K29 post
def ws_X7_walkUses_29 (rec_ : Int32 → Int32 → MS → Prop) (post : MS → Prop) (x1 : Int32) (x2 : Int32) (S : MS) : Prop :=
 ((x2 = 0 →
 post S) ∧
 (¬ x2 = 0 →
 (∃ n_, wp_X7_walkUses_39 rec_ post n_ x1 (0 : Int32) (149 : Int32) S)))
def wp_X7_walkUses_29 (post : MS → Prop) : Nat → Int32 → Int32 → MS → Prop
  | 0 => fun _ _ _ => False
  | n + 1 => ws_X7_walkUses_29 (wp_X7_walkUses_29 post n) post
def ws_X7_walkUses_2 (rec_ : Int32 → Int32 → MS → Prop) (post : MS → Prop) (x1 : Int32) (x2 : Int32) (S : MS) : Prop :=
 (((150 : Int32) ≤ x2 →
 (∃ n_, wp_X7_walkUses_29 post n_ x1 (1 : Int32) S)) ∧
 (¬ (150 : Int32) ≤ x2 →
 vp_in (((16 : Int32) * x2) + x1) 2400 ∧ ∀ S_1 : MS, S_1 = sM_used S (upd (gM_used S) (((16 : Int32) * x2) + x1).toNatClampNeg (vp_nar .boolean (0 : Int32))) → ∀ x2_2 : Int32, x2_2 = x2 + (1 : Int32) → rec_ x1 x2_2 S_1))
def wp_X7_walkUses_2 (post : MS → Prop) : Nat → Int32 → Int32 → MS → Prop
  | 0 => fun _ _ _ => False
  | n + 1 => ws_X7_walkUses_2 (wp_X7_walkUses_2 post n) post
def wp_X7_walkUses (S : MS) (x1 : Int32) (post : MS → Prop) : Prop :=
 (∃ n_, wp_X7_walkUses_2 post n_ x1 (0 : Int32) S)
def wp_X7_come_lost (S : MS) (x2 : Int32) (x3 : Int32) (post : MS → Prop) : Prop :=
 vp_in x2 9600 ∧ (((gM_lost S (x2).toNatClampNeg) = 0 →
 vp_in x2 9600 ∧ ∀ S_1 : MS, S_1 = sM_lost S (upd (gM_lost S) (x2).toNatClampNeg (vp_nar .boolean (1 : Int32))) → vp_in (gM_piled S_1) 2400 ∧ ∀ S_2 : MS, S_2 = sM_pile S_1 (upd (gM_pile S_1) (gM_piled S_1).toNatClampNeg x3) → ∀ S_3 : MS, S_3 = sM_piled S_2 ((gM_piled S_2) + (1 : Int32)) → post S_3) ∧
 (¬ (gM_lost S (x2).toNatClampNeg) = 0 →
 post S))
def wp_X7_isLeafOf (S : MS) (x1 : Int32) (x2 : Int32) (post : Int32 → MS → Prop) : Prop :=
 vp_in x1 150 ∧ vp_in (gM_of S (x1).toNatClampNeg) 16 ∧ (((gM_lvs S (gM_of S (x1).toNatClampNeg).toNatClampNeg) = (1 : Int32) →
 post (1 : Int32) S) ∧
 (¬ (gM_lvs S (gM_of S (x1).toNatClampNeg).toNatClampNeg) = (1 : Int32) →
 vp_in x1 150 ∧ (((gM_path S (x1).toNatClampNeg) = 0 →
 post (1 : Int32) S) ∧
 (¬ (gM_path S (x1).toNatClampNeg) = 0 →
 vp_in x1 150 ∧ ((¬ ((gM_path S (x1).toNatClampNeg) - (gM_path S (x1).toNatClampNeg) / (8 : Int32) * (8 : Int32)) = (x2 + (1 : Int32)) →
 post (0 : Int32) S) ∧
 (((gM_path S (x1).toNatClampNeg) - (gM_path S (x1).toNatClampNeg) / (8 : Int32) * (8 : Int32)) = (x2 + (1 : Int32)) →
 post (1 : Int32) S))))))
def wp_X7_gives_22 (post : Int32 → MS → Prop) (x1 : Int32) (x2 : Int32) (S : MS) : Prop :=
 vp_in x1 150 ∧ ((¬ (gM_to S (x1).toNatClampNeg) = x2 →
 post (0 : Int32) S) ∧
 ((gM_to S (x1).toNatClampNeg) = x2 →
 post (1 : Int32) S))
def wp_X7_gives (S : MS) (x1 : Int32) (x2 : Int32) (x3 : Int32) (post : Int32 → MS → Prop) : Prop :=
 vp_in x1 150 ∧ (((gM_acts S (x1).toNatClampNeg) = (7 : Int32) →
 wp_X7_gives_22 post x1 x2 S) ∧
 (¬ (gM_acts S (x1).toNatClampNeg) = (7 : Int32) →
 vp_in x1 150 ∧ ((¬ (gM_acts S (x1).toNatClampNeg) = (8 : Int32) →
 vp_in x1 150 ∧ ((¬ (gM_acts S (x1).toNatClampNeg) = (3 : Int32) →
 post (0 : Int32) S) ∧
 ((gM_acts S (x1).toNatClampNeg) = (3 : Int32) →
 vp_in x1 150 ∧ ((¬ (gM_of S (x1).toNatClampNeg) = x2 →
 post (0 : Int32) S) ∧
 ((gM_of S (x1).toNatClampNeg) = x2 →
 vp_in x1 150 ∧ wp_X7_isWithin S x2 (gM_path S (x1).toNatClampNeg) (fun r66 S66 =>
 ((¬ r66 = 0 →
 post (0 : Int32) S66) ∧
 (r66 = 0 →
 wp_X7_isLeafOf S66 x1 x3 (fun r75 S75 =>
 ((r75 = 0 →
 post (0 : Int32) S75) ∧
 (¬ r75 = 0 →
 post (1 : Int32) S75))))))))))) ∧
 ((gM_acts S (x1).toNatClampNeg) = (8 : Int32) →
 wp_X7_gives_22 post x1 x2 S))))
def wp_X7_takes_31 (post : Int32 → MS → Prop) (x1 : Int32) (x2 : Int32) (S : MS) : Prop :=
 vp_in x1 150 ∧ (((gM_acts S (x1).toNatClampNeg) = (5 : Int32) →
 post (1 : Int32) S) ∧
 (¬ (gM_acts S (x1).toNatClampNeg) = (5 : Int32) →
 vp_in x1 150 ∧ ((¬ (gM_acts S (x1).toNatClampNeg) = (8 : Int32) →
 post (0 : Int32) S) ∧
 ((gM_acts S (x1).toNatClampNeg) = (8 : Int32) →
 vp_in x2 16 ∧ ((¬ (gM_sort S (x2).toNatClampNeg) = (2 : Int32) →
 post (0 : Int32) S) ∧
 ((gM_sort S (x2).toNatClampNeg) = (2 : Int32) →
 post (1 : Int32) S))))))
def wp_X7_takes (S : MS) (x1 : Int32) (x2 : Int32) (x3 : Int32) (post : Int32 → MS → Prop) : Prop :=
 vp_in x1 150 ∧ (((gM_of S (x1).toNatClampNeg) = x2 →
 vp_in x1 150 ∧ ((¬ (gM_acts S (x1).toNatClampNeg) = (2 : Int32) →
 wp_X7_takes_31 post x1 x2 S) ∧
 ((gM_acts S (x1).toNatClampNeg) = (2 : Int32) →
 wp_X7_isLeafOf S x1 x3 (fun r25 S25 =>
 ((¬ r25 = 0 →
 post (1 : Int32) S25) ∧
 (r25 = 0 →
 wp_X7_takes_31 post x1 x2 S25)))))) ∧
 (¬ (gM_of S (x1).toNatClampNeg) = x2 →
 post (0 : Int32) S))
def wp_X7_walkLeaf_lost_180 (K63 : Int32 → Int32 → Int32 → Int32 → Int32 → MS → Prop) (post : MS → Prop) (x1 : Int32) (x2 : Int32) (x3 : Int32) (x5 : Int32) (x6 : Int32) (S : MS) : Prop :=
 ∀ x6_1 : Int32, x6_1 = x6 + (1 : Int32) → K63 x1 x2 x3 x5 x6_1 S
def wp_X7_walkLeaf_lost_174 (K116 : Int32 → Int32 → Int32 → Int32 → Int32 → Int32 → MS → Prop) (post : MS → Prop) (x1 : Int32) (x2 : Int32) (x3 : Int32) (x5 : Int32) (x6 : Int32) (x7 : Int32) (S : MS) : Prop :=
 ∀ x7_1 : Int32, x7_1 = x7 + (1 : Int32) → K116 x1 x2 x3 x5 x6 x7_1 S
def ws_X7_walkLeaf_lost_116 (rec_ : Int32 → Int32 → Int32 → Int32 → Int32 → Int32 → MS → Prop) (K180 : Int32 → Int32 → Int32 → Int32 → Int32 → MS → Prop) (post : MS → Prop) (x1 : Int32) (x2 : Int32) (x3 : Int32) (x5 : Int32) (x6 : Int32) (x7 : Int32) (S : MS) : Prop :=
 (((4 : Int32) ≤ x7 →
 K180 x1 x2 x3 x5 x6 S) ∧
 (¬ (4 : Int32) ≤ x7 →
 vp_in (((4 : Int32) * x6) + x7) 600 ∧ (((gM_nexts S (((4 : Int32) * x6) + x7).toNatClampNeg) = (-1 : Int32) →
 wp_X7_walkLeaf_lost_174 rec_ post x1 x2 x3 x5 x6 x7 S) ∧
 (¬ (gM_nexts S (((4 : Int32) * x6) + x7).toNatClampNeg) = (-1 : Int32) →
 vp_in (((4 : Int32) * x6) + x7) 600 ∧ vp_in (((4 : Int32) * x6) + x7) 600 ∧ wp_X7_come_lost S (((64 : Int32) * (gM_nexts S (((4 : Int32) * x6) + x7).toNatClampNeg)) + x5) (gM_nexts S (((4 : Int32) * x6) + x7).toNatClampNeg) (fun S171 =>
 wp_X7_walkLeaf_lost_174 rec_ post x1 x2 x3 x5 x6 x7 S171)))))
def wp_X7_walkLeaf_lost_116 (K180 : Int32 → Int32 → Int32 → Int32 → Int32 → MS → Prop) (post : MS → Prop) : Nat → Int32 → Int32 → Int32 → Int32 → Int32 → Int32 → MS → Prop
  | 0 => fun _ _ _ _ _ _ _ => False
  | n + 1 => ws_X7_walkLeaf_lost_116 (wp_X7_walkLeaf_lost_116 K180 post n) K180 post
def wp_X7_walkLeaf_lost_113 (K180 : Int32 → Int32 → Int32 → Int32 → Int32 → MS → Prop) (post : MS → Prop) (x1 : Int32) (x2 : Int32) (x3 : Int32) (x5 : Int32) (x6 : Int32) (S : MS) : Prop :=
 (∃ n_, wp_X7_walkLeaf_lost_116 K180 post n_ x1 x2 x3 x5 x6 (0 : Int32) S)
def wp_X7_walkLeaf_lost_307 (K249 : Int32 → Int32 → Int32 → Int32 → Int32 → Int32 → MS → Prop) (post : MS → Prop) (x1 : Int32) (x2 : Int32) (x3 : Int32) (x5 : Int32) (x6 : Int32) (x7 : Int32) (S : MS) : Prop :=
 ∀ x7_1 : Int32, x7_1 = x7 + (1 : Int32) → K249 x1 x2 x3 x5 x6 x7_1 S
def ws_X7_walkLeaf_lost_249 (rec_ : Int32 → Int32 → Int32 → Int32 → Int32 → Int32 → MS → Prop) (K186 : Int32 → Int32 → Int32 → Int32 → MS → Prop) (post : MS → Prop) (x1 : Int32) (x2 : Int32) (x3 : Int32) (x5 : Int32) (x6 : Int32) (x7 : Int32) (S : MS) : Prop :=
 (((4 : Int32) ≤ x7 →
 K186 x1 x2 x3 x5 S) ∧
 (¬ (4 : Int32) ≤ x7 →
 vp_in (((4 : Int32) * x6) + x7) 600 ∧ (((gM_nexts S (((4 : Int32) * x6) + x7).toNatClampNeg) = (-1 : Int32) →
 wp_X7_walkLeaf_lost_307 rec_ post x1 x2 x3 x5 x6 x7 S) ∧
 (¬ (gM_nexts S (((4 : Int32) * x6) + x7).toNatClampNeg) = (-1 : Int32) →
 vp_in (((4 : Int32) * x6) + x7) 600 ∧ vp_in (((4 : Int32) * x6) + x7) 600 ∧ wp_X7_come_lost S (((64 : Int32) * (gM_nexts S (((4 : Int32) * x6) + x7).toNatClampNeg)) + x5) (gM_nexts S (((4 : Int32) * x6) + x7).toNatClampNeg) (fun S304 =>
 wp_X7_walkLeaf_lost_307 rec_ post x1 x2 x3 x5 x6 x7 S304)))))
def wp_X7_walkLeaf_lost_249 (K186 : Int32 → Int32 → Int32 → Int32 → MS → Prop) (post : MS → Prop) : Nat → Int32 → Int32 → Int32 → Int32 → Int32 → Int32 → MS → Prop
  | 0 => fun _ _ _ _ _ _ _ => False
  | n + 1 => ws_X7_walkLeaf_lost_249 (wp_X7_walkLeaf_lost_249 K186 post n) K186 post
def wp_X7_walkLeaf_lost_246 (K186 : Int32 → Int32 → Int32 → Int32 → MS → Prop) (post : MS → Prop) (x1 : Int32) (x2 : Int32) (x3 : Int32) (x5 : Int32) (x6 : Int32) (S : MS) : Prop :=
 (∃ n_, wp_X7_walkLeaf_lost_249 K186 post n_ x1 x2 x3 x5 x6 (0 : Int32) S)
def ws_X7_walkLeaf_lost_186 (rec_ : Int32 → Int32 → Int32 → Int32 → MS → Prop) (post : MS → Prop) (x1 : Int32) (x2 : Int32) (x3 : Int32) (x5 : Int32) (S : MS) : Prop :=
 (((gM_piled S) ≤ 0 →
 post S) ∧
 (¬ (gM_piled S) ≤ 0 →
 ∀ S_1 : MS, S_1 = sM_piled S ((gM_piled S) - (1 : Int32)) → vp_in (gM_piled S_1) 2400 ∧ ∀ x6_2 : Int32, x6_2 = gM_pile S_1 (gM_piled S_1).toNatClampNeg → ((x3 = 0 →
 wp_X7_gives S_1 x6_2 x1 x2 (fun r237 S237 =>
 ((r237 = 0 →
 wp_X7_walkLeaf_lost_246 rec_ post x1 x2 x3 x5 x6_2 S237) ∧
 (¬ r237 = 0 →
 rec_ x1 x2 x3 x5 S237)))) ∧
 (¬ x3 = 0 →
 wp_X7_takes S_1 x6_2 x1 x2 (fun r223 S223 =>
 ((r223 = 0 →
 wp_X7_walkLeaf_lost_246 rec_ post x1 x2 x3 x5 x6_2 S223) ∧
 (¬ r223 = 0 →
 rec_ x1 x2 x3 x5 S223)))))))
def wp_X7_walkLeaf_lost_186 (post : MS → Prop) : Nat → Int32 → Int32 → Int32 → Int32 → MS → Prop
  | 0 => fun _ _ _ _ _ => False
  | n + 1 => ws_X7_walkLeaf_lost_186 (wp_X7_walkLeaf_lost_186 post n) post
def ws_X7_walkLeaf_lost_63 (rec_ : Int32 → Int32 → Int32 → Int32 → Int32 → MS → Prop) (post : MS → Prop) (x1 : Int32) (x2 : Int32) (x3 : Int32) (x5 : Int32) (x6 : Int32) (S : MS) : Prop :=
 (((150 : Int32) ≤ x6 →
 (∃ n_, wp_X7_walkLeaf_lost_186 post n_ x1 x2 x3 x5 S)) ∧
 (¬ (150 : Int32) ≤ x6 →
 vp_in x6 150 ∧ (((gM_come S (x6).toNatClampNeg) = 0 →
 wp_X7_walkLeaf_lost_180 rec_ post x1 x2 x3 x5 x6 S) ∧
 (¬ (gM_come S (x6).toNatClampNeg) = 0 →
 ((x3 = 0 →
 wp_X7_takes S x6 x1 x2 (fun r104 S104 =>
 ((¬ r104 = 0 →
 wp_X7_walkLeaf_lost_113 (fun x1 x2 x3 x5 x6 S => wp_X7_walkLeaf_lost_180 rec_ post x1 x2 x3 x5 x6 S) post x1 x2 x3 x5 x6 S104) ∧
 (r104 = 0 →
 wp_X7_walkLeaf_lost_180 rec_ post x1 x2 x3 x5 x6 S104)))) ∧
 (¬ x3 = 0 →
 wp_X7_gives S x6 x1 x2 (fun r90 S90 =>
 ((r90 = 0 →
 wp_X7_walkLeaf_lost_180 rec_ post x1 x2 x3 x5 x6 S90) ∧
 (¬ r90 = 0 →
 wp_X7_walkLeaf_lost_113 (fun x1 x2 x3 x5 x6 S => wp_X7_walkLeaf_lost_180 rec_ post x1 x2 x3 x5 x6 S) post x1 x2 x3 x5 x6 S90)))))))))
def wp_X7_walkLeaf_lost_63 (post : MS → Prop) : Nat → Int32 → Int32 → Int32 → Int32 → Int32 → MS → Prop
  | 0 => fun _ _ _ _ _ _ => False
  | n + 1 => ws_X7_walkLeaf_lost_63 (wp_X7_walkLeaf_lost_63 post n) post
def wp_X7_walkLeaf_lost_60 (post : MS → Prop) (x1 : Int32) (x2 : Int32) (x3 : Int32) (x5 : Int32) (S : MS) : Prop :=
 (∃ n_, wp_X7_walkLeaf_lost_63 post n_ x1 x2 x3 x5 (0 : Int32) S)
def ws_X7_walkLeaf_lost_10 (rec_ : Int32 → Int32 → Int32 → Int32 → Int32 → MS → Prop) (post : MS → Prop) (x1 : Int32) (x2 : Int32) (x3 : Int32) (x5 : Int32) (x6 : Int32) (S : MS) : Prop :=
 (((150 : Int32) ≤ x6 →
 ∀ S_1 : MS, S_1 = sM_piled S (0 : Int32) → vp_in x1 16 ∧ ((¬ (gM_atF S_1 (x1).toNatClampNeg) = x3 →
 wp_X7_walkLeaf_lost_60 post x1 x2 x3 x5 S_1) ∧
 ((gM_atF S_1 (x1).toNatClampNeg) = x3 →
 wp_X7_come_lost S_1 x5 (0 : Int32) (fun S57 =>
 wp_X7_walkLeaf_lost_60 post x1 x2 x3 x5 S57)))) ∧
 (¬ (150 : Int32) ≤ x6 →
 vp_in (((64 : Int32) * x6) + x5) 9600 ∧ ∀ S_2 : MS, S_2 = sM_lost S (upd (gM_lost S) (((64 : Int32) * x6) + x5).toNatClampNeg (vp_nar .boolean (0 : Int32))) → ∀ x6_3 : Int32, x6_3 = x6 + (1 : Int32) → rec_ x1 x2 x3 x5 x6_3 S_2))
def wp_X7_walkLeaf_lost_10 (post : MS → Prop) : Nat → Int32 → Int32 → Int32 → Int32 → Int32 → MS → Prop
  | 0 => fun _ _ _ _ _ _ => False
  | n + 1 => ws_X7_walkLeaf_lost_10 (wp_X7_walkLeaf_lost_10 post n) post
def wp_X7_walkLeaf_lost (S : MS) (x1 : Int32) (x2 : Int32) (x3 : Int32) (post : MS → Prop) : Prop :=
 ∀ x5_1 : Int32, x5_1 = ((4 : Int32) * x1) + x2 → (∃ n_, wp_X7_walkLeaf_lost_10 post n_ x1 x2 x3 x5_1 (0 : Int32) S)
def wp_X7_come_had (S : MS) (x2 : Int32) (x3 : Int32) (post : MS → Prop) : Prop :=
 vp_in x2 9600 ∧ (((gM_had S (x2).toNatClampNeg) = 0 →
 vp_in x2 9600 ∧ ∀ S_1 : MS, S_1 = sM_had S (upd (gM_had S) (x2).toNatClampNeg (vp_nar .boolean (1 : Int32))) → vp_in (gM_piled S_1) 2400 ∧ ∀ S_2 : MS, S_2 = sM_pile S_1 (upd (gM_pile S_1) (gM_piled S_1).toNatClampNeg x3) → ∀ S_3 : MS, S_3 = sM_piled S_2 ((gM_piled S_2) + (1 : Int32)) → post S_3) ∧
 (¬ (gM_had S (x2).toNatClampNeg) = 0 →
 post S))
def wp_X7_walkLeaf_had_180 (K63 : Int32 → Int32 → Int32 → Int32 → Int32 → MS → Prop) (post : MS → Prop) (x1 : Int32) (x2 : Int32) (x3 : Int32) (x5 : Int32) (x6 : Int32) (S : MS) : Prop :=
 ∀ x6_1 : Int32, x6_1 = x6 + (1 : Int32) → K63 x1 x2 x3 x5 x6_1 S
def wp_X7_walkLeaf_had_174 (K116 : Int32 → Int32 → Int32 → Int32 → Int32 → Int32 → MS → Prop) (post : MS → Prop) (x1 : Int32) (x2 : Int32) (x3 : Int32) (x5 : Int32) (x6 : Int32) (x7 : Int32) (S : MS) : Prop :=
 ∀ x7_1 : Int32, x7_1 = x7 + (1 : Int32) → K116 x1 x2 x3 x5 x6 x7_1 S
def ws_X7_walkLeaf_had_116 (rec_ : Int32 → Int32 → Int32 → Int32 → Int32 → Int32 → MS → Prop) (K180 : Int32 → Int32 → Int32 → Int32 → Int32 → MS → Prop) (post : MS → Prop) (x1 : Int32) (x2 : Int32) (x3 : Int32) (x5 : Int32) (x6 : Int32) (x7 : Int32) (S : MS) : Prop :=
 (((4 : Int32) ≤ x7 →
 K180 x1 x2 x3 x5 x6 S) ∧
 (¬ (4 : Int32) ≤ x7 →
 vp_in (((4 : Int32) * x6) + x7) 600 ∧ (((gM_nexts S (((4 : Int32) * x6) + x7).toNatClampNeg) = (-1 : Int32) →
 wp_X7_walkLeaf_had_174 rec_ post x1 x2 x3 x5 x6 x7 S) ∧
 (¬ (gM_nexts S (((4 : Int32) * x6) + x7).toNatClampNeg) = (-1 : Int32) →
 vp_in (((4 : Int32) * x6) + x7) 600 ∧ vp_in (((4 : Int32) * x6) + x7) 600 ∧ wp_X7_come_had S (((64 : Int32) * (gM_nexts S (((4 : Int32) * x6) + x7).toNatClampNeg)) + x5) (gM_nexts S (((4 : Int32) * x6) + x7).toNatClampNeg) (fun S171 =>
 wp_X7_walkLeaf_had_174 rec_ post x1 x2 x3 x5 x6 x7 S171)))))
def wp_X7_walkLeaf_had_116 (K180 : Int32 → Int32 → Int32 → Int32 → Int32 → MS → Prop) (post : MS → Prop) : Nat → Int32 → Int32 → Int32 → Int32 → Int32 → Int32 → MS → Prop
  | 0 => fun _ _ _ _ _ _ _ => False
  | n + 1 => ws_X7_walkLeaf_had_116 (wp_X7_walkLeaf_had_116 K180 post n) K180 post
def wp_X7_walkLeaf_had_113 (K180 : Int32 → Int32 → Int32 → Int32 → Int32 → MS → Prop) (post : MS → Prop) (x1 : Int32) (x2 : Int32) (x3 : Int32) (x5 : Int32) (x6 : Int32) (S : MS) : Prop :=
 (∃ n_, wp_X7_walkLeaf_had_116 K180 post n_ x1 x2 x3 x5 x6 (0 : Int32) S)
def wp_X7_walkLeaf_had_307 (K249 : Int32 → Int32 → Int32 → Int32 → Int32 → Int32 → MS → Prop) (post : MS → Prop) (x1 : Int32) (x2 : Int32) (x3 : Int32) (x5 : Int32) (x6 : Int32) (x7 : Int32) (S : MS) : Prop :=
 ∀ x7_1 : Int32, x7_1 = x7 + (1 : Int32) → K249 x1 x2 x3 x5 x6 x7_1 S
def ws_X7_walkLeaf_had_249 (rec_ : Int32 → Int32 → Int32 → Int32 → Int32 → Int32 → MS → Prop) (K186 : Int32 → Int32 → Int32 → Int32 → MS → Prop) (post : MS → Prop) (x1 : Int32) (x2 : Int32) (x3 : Int32) (x5 : Int32) (x6 : Int32) (x7 : Int32) (S : MS) : Prop :=
 (((4 : Int32) ≤ x7 →
 K186 x1 x2 x3 x5 S) ∧
 (¬ (4 : Int32) ≤ x7 →
 vp_in (((4 : Int32) * x6) + x7) 600 ∧ (((gM_nexts S (((4 : Int32) * x6) + x7).toNatClampNeg) = (-1 : Int32) →
 wp_X7_walkLeaf_had_307 rec_ post x1 x2 x3 x5 x6 x7 S) ∧
 (¬ (gM_nexts S (((4 : Int32) * x6) + x7).toNatClampNeg) = (-1 : Int32) →
 vp_in (((4 : Int32) * x6) + x7) 600 ∧ vp_in (((4 : Int32) * x6) + x7) 600 ∧ wp_X7_come_had S (((64 : Int32) * (gM_nexts S (((4 : Int32) * x6) + x7).toNatClampNeg)) + x5) (gM_nexts S (((4 : Int32) * x6) + x7).toNatClampNeg) (fun S304 =>
 wp_X7_walkLeaf_had_307 rec_ post x1 x2 x3 x5 x6 x7 S304)))))
def wp_X7_walkLeaf_had_249 (K186 : Int32 → Int32 → Int32 → Int32 → MS → Prop) (post : MS → Prop) : Nat → Int32 → Int32 → Int32 → Int32 → Int32 → Int32 → MS → Prop
  | 0 => fun _ _ _ _ _ _ _ => False
  | n + 1 => ws_X7_walkLeaf_had_249 (wp_X7_walkLeaf_had_249 K186 post n) K186 post
def wp_X7_walkLeaf_had_246 (K186 : Int32 → Int32 → Int32 → Int32 → MS → Prop) (post : MS → Prop) (x1 : Int32) (x2 : Int32) (x3 : Int32) (x5 : Int32) (x6 : Int32) (S : MS) : Prop :=
 (∃ n_, wp_X7_walkLeaf_had_249 K186 post n_ x1 x2 x3 x5 x6 (0 : Int32) S)
def ws_X7_walkLeaf_had_186 (rec_ : Int32 → Int32 → Int32 → Int32 → MS → Prop) (post : MS → Prop) (x1 : Int32) (x2 : Int32) (x3 : Int32) (x5 : Int32) (S : MS) : Prop :=
 (((gM_piled S) ≤ 0 →
 post S) ∧
 (¬ (gM_piled S) ≤ 0 →
 ∀ S_1 : MS, S_1 = sM_piled S ((gM_piled S) - (1 : Int32)) → vp_in (gM_piled S_1) 2400 ∧ ∀ x6_2 : Int32, x6_2 = gM_pile S_1 (gM_piled S_1).toNatClampNeg → ((x3 = 0 →
 wp_X7_gives S_1 x6_2 x1 x2 (fun r237 S237 =>
 ((r237 = 0 →
 wp_X7_walkLeaf_had_246 rec_ post x1 x2 x3 x5 x6_2 S237) ∧
 (¬ r237 = 0 →
 rec_ x1 x2 x3 x5 S237)))) ∧
 (¬ x3 = 0 →
 wp_X7_takes S_1 x6_2 x1 x2 (fun r223 S223 =>
 ((r223 = 0 →
 wp_X7_walkLeaf_had_246 rec_ post x1 x2 x3 x5 x6_2 S223) ∧
 (¬ r223 = 0 →
 rec_ x1 x2 x3 x5 S223)))))))
def wp_X7_walkLeaf_had_186 (post : MS → Prop) : Nat → Int32 → Int32 → Int32 → Int32 → MS → Prop
  | 0 => fun _ _ _ _ _ => False
  | n + 1 => ws_X7_walkLeaf_had_186 (wp_X7_walkLeaf_had_186 post n) post
def ws_X7_walkLeaf_had_63 (rec_ : Int32 → Int32 → Int32 → Int32 → Int32 → MS → Prop) (post : MS → Prop) (x1 : Int32) (x2 : Int32) (x3 : Int32) (x5 : Int32) (x6 : Int32) (S : MS) : Prop :=
 (((150 : Int32) ≤ x6 →
 (∃ n_, wp_X7_walkLeaf_had_186 post n_ x1 x2 x3 x5 S)) ∧
 (¬ (150 : Int32) ≤ x6 →
 vp_in x6 150 ∧ (((gM_come S (x6).toNatClampNeg) = 0 →
 wp_X7_walkLeaf_had_180 rec_ post x1 x2 x3 x5 x6 S) ∧
 (¬ (gM_come S (x6).toNatClampNeg) = 0 →
 ((x3 = 0 →
 wp_X7_takes S x6 x1 x2 (fun r104 S104 =>
 ((¬ r104 = 0 →
 wp_X7_walkLeaf_had_113 (fun x1 x2 x3 x5 x6 S => wp_X7_walkLeaf_had_180 rec_ post x1 x2 x3 x5 x6 S) post x1 x2 x3 x5 x6 S104) ∧
 (r104 = 0 →
 wp_X7_walkLeaf_had_180 rec_ post x1 x2 x3 x5 x6 S104)))) ∧
 (¬ x3 = 0 →
 wp_X7_gives S x6 x1 x2 (fun r90 S90 =>
 ((r90 = 0 →
 wp_X7_walkLeaf_had_180 rec_ post x1 x2 x3 x5 x6 S90) ∧
 (¬ r90 = 0 →
 wp_X7_walkLeaf_had_113 (fun x1 x2 x3 x5 x6 S => wp_X7_walkLeaf_had_180 rec_ post x1 x2 x3 x5 x6 S) post x1 x2 x3 x5 x6 S90)))))))))
def wp_X7_walkLeaf_had_63 (post : MS → Prop) : Nat → Int32 → Int32 → Int32 → Int32 → Int32 → MS → Prop
  | 0 => fun _ _ _ _ _ _ => False
  | n + 1 => ws_X7_walkLeaf_had_63 (wp_X7_walkLeaf_had_63 post n) post
def wp_X7_walkLeaf_had_60 (post : MS → Prop) (x1 : Int32) (x2 : Int32) (x3 : Int32) (x5 : Int32) (S : MS) : Prop :=
 (∃ n_, wp_X7_walkLeaf_had_63 post n_ x1 x2 x3 x5 (0 : Int32) S)
def ws_X7_walkLeaf_had_10 (rec_ : Int32 → Int32 → Int32 → Int32 → Int32 → MS → Prop) (post : MS → Prop) (x1 : Int32) (x2 : Int32) (x3 : Int32) (x5 : Int32) (x6 : Int32) (S : MS) : Prop :=
 (((150 : Int32) ≤ x6 →
 ∀ S_1 : MS, S_1 = sM_piled S (0 : Int32) → vp_in x1 16 ∧ ((¬ (gM_atF S_1 (x1).toNatClampNeg) = x3 →
 wp_X7_walkLeaf_had_60 post x1 x2 x3 x5 S_1) ∧
 ((gM_atF S_1 (x1).toNatClampNeg) = x3 →
 wp_X7_come_had S_1 x5 (0 : Int32) (fun S57 =>
 wp_X7_walkLeaf_had_60 post x1 x2 x3 x5 S57)))) ∧
 (¬ (150 : Int32) ≤ x6 →
 vp_in (((64 : Int32) * x6) + x5) 9600 ∧ ∀ S_2 : MS, S_2 = sM_had S (upd (gM_had S) (((64 : Int32) * x6) + x5).toNatClampNeg (vp_nar .boolean (0 : Int32))) → ∀ x6_3 : Int32, x6_3 = x6 + (1 : Int32) → rec_ x1 x2 x3 x5 x6_3 S_2))
def wp_X7_walkLeaf_had_10 (post : MS → Prop) : Nat → Int32 → Int32 → Int32 → Int32 → Int32 → MS → Prop
  | 0 => fun _ _ _ _ _ _ => False
  | n + 1 => ws_X7_walkLeaf_had_10 (wp_X7_walkLeaf_had_10 post n) post
def wp_X7_walkLeaf_had (S : MS) (x1 : Int32) (x2 : Int32) (x3 : Int32) (post : MS → Prop) : Prop :=
 ∀ x5_1 : Int32, x5_1 = ((4 : Int32) * x1) + x2 → (∃ n_, wp_X7_walkLeaf_had_10 post n_ x1 x2 x3 x5_1 (0 : Int32) S)
def wp_X7_come_seen (S : MS) (x2 : Int32) (x3 : Int32) (post : MS → Prop) : Prop :=
 vp_in x2 150 ∧ (((gM_seen S (x2).toNatClampNeg) = 0 →
 vp_in x2 150 ∧ ∀ S_1 : MS, S_1 = sM_seen S (upd (gM_seen S) (x2).toNatClampNeg (vp_nar .boolean (1 : Int32))) → vp_in (gM_piled S_1) 2400 ∧ ∀ S_2 : MS, S_2 = sM_pile S_1 (upd (gM_pile S_1) (gM_piled S_1).toNatClampNeg x3) → ∀ S_3 : MS, S_3 = sM_piled S_2 ((gM_piled S_2) + (1 : Int32)) → post S_3) ∧
 (¬ (gM_seen S (x2).toNatClampNeg) = 0 →
 post S))
def wp_X7_wants_56 (post : Int32 → MS → Prop) (x1 : Int32) (x2 : Int32) (S : MS) : Prop :=
 wp_X7_isLeafOf S x1 x2 (fun r59 S59 =>
 isb r59 ∧ post r59 S59)
def wp_X7_wants (S : MS) (x1 : Int32) (x2 : Int32) (post : Int32 → MS → Prop) : Prop :=
 vp_in x1 150 ∧ ∀ x3_1 : Int32, x3_1 = gM_acts S (x1).toNatClampNeg → ((¬ x3_1 = (8 : Int32) →
 ((x3_1 = 0 →
 post (0 : Int32) S) ∧
 (¬ x3_1 = 0 →
 ((x3_1 = (5 : Int32) →
 post (0 : Int32) S) ∧
 (¬ x3_1 = (5 : Int32) →
 ((x3_1 = (6 : Int32) →
 post (0 : Int32) S) ∧
 (¬ x3_1 = (6 : Int32) →
 ((¬ x3_1 = (3 : Int32) →
 wp_X7_wants_56 post x1 x2 S) ∧
 (x3_1 = (3 : Int32) →
 vp_in x1 150 ∧ vp_in x1 150 ∧ wp_X7_isWithin S (gM_of S (x1).toNatClampNeg) (gM_path S (x1).toNatClampNeg) (fun r48 S48 =>
 ((¬ r48 = 0 →
 wp_X7_wants_56 post x1 x2 S48) ∧
 (r48 = 0 →
 post (0 : Int32) S48)))))))))))) ∧
 (x3_1 = (8 : Int32) →
 post (1 : Int32) S))
def wp_X7_lackedBy_62 (K13 : Int32 → Int32 → MS → Prop) (post : Int32 → MS → Prop) (x1 : Int32) (x2 : Int32) (S : MS) : Prop :=
 ∀ x2_1 : Int32, x2_1 = x2 + (1 : Int32) → K13 x1 x2_1 S
def ws_X7_lackedBy_13 (rec_ : Int32 → Int32 → MS → Prop) (post : Int32 → MS → Prop) (x1 : Int32) (x2 : Int32) (S : MS) : Prop :=
 vp_in x1 150 ∧ vp_in (gM_of S (x1).toNatClampNeg) 16 ∧ (((gM_lvs S (gM_of S (x1).toNatClampNeg).toNatClampNeg) ≤ x2 →
 post (-1 : Int32) S) ∧
 (¬ (gM_lvs S (gM_of S (x1).toNatClampNeg).toNatClampNeg) ≤ x2 →
 wp_X7_wants S x1 x2 (fun r31 S31 =>
 ((r31 = 0 →
 wp_X7_lackedBy_62 rec_ post x1 x2 S31) ∧
 (¬ r31 = 0 →
 vp_in x1 150 ∧ vp_in ((((64 : Int32) * x1) + ((4 : Int32) * (gM_of S31 (x1).toNatClampNeg))) + x2) 9600 ∧ (((gM_lost S31 ((((64 : Int32) * x1) + ((4 : Int32) * (gM_of S31 (x1).toNatClampNeg))) + x2).toNatClampNeg) = 0 →
 wp_X7_lackedBy_62 rec_ post x1 x2 S31) ∧
 (¬ (gM_lost S31 ((((64 : Int32) * x1) + ((4 : Int32) * (gM_of S31 (x1).toNatClampNeg))) + x2).toNatClampNeg) = 0 →
 post x2 S31)))))))
def wp_X7_lackedBy_13 (post : Int32 → MS → Prop) : Nat → Int32 → Int32 → MS → Prop
  | 0 => fun _ _ _ => False
  | n + 1 => ws_X7_lackedBy_13 (wp_X7_lackedBy_13 post n) post
def wp_X7_lackedBy (S : MS) (x1 : Int32) (post : Int32 → MS → Prop) : Prop :=
 vp_in x1 150 ∧ ((¬ (gM_acts S (x1).toNatClampNeg) = 0 →
 (∃ n_, wp_X7_lackedBy_13 post n_ x1 (0 : Int32) S)) ∧
 ((gM_acts S (x1).toNatClampNeg) = 0 →
 post (-1 : Int32) S))
def wp_X7_taker_258 (K16 : Int32 → Int32 → Int32 → Int32 → MS → Prop) (post : Int32 → MS → Prop) (x1 : Int32) (x2 : Int32) (x3 : Int32) (x4 : Int32) (S : MS) : Prop :=
 ∀ x4_1 : Int32, x4_1 = x4 + (1 : Int32) → K16 x1 x2 x3 x4_1 S
def wp_X7_taker_135 (K81 : Int32 → Int32 → Int32 → Int32 → Int32 → MS → Prop) (post : Int32 → MS → Prop) (x1 : Int32) (x2 : Int32) (x3 : Int32) (x4 : Int32) (x5 : Int32) (S : MS) : Prop :=
 ∀ x5_1 : Int32, x5_1 = x5 + (1 : Int32) → K81 x1 x2 x3 x4 x5_1 S
def wp_X7_taker_249 (K195 : Int32 → Int32 → Int32 → Int32 → Int32 → Int32 → MS → Prop) (post : Int32 → MS → Prop) (x1 : Int32) (x2 : Int32) (x3 : Int32) (x4 : Int32) (x5 : Int32) (x6 : Int32) (S : MS) : Prop :=
 ∀ x6_1 : Int32, x6_1 = x6 + (1 : Int32) → K195 x1 x2 x3 x4 x5 x6_1 S
def ws_X7_taker_195 (rec_ : Int32 → Int32 → Int32 → Int32 → Int32 → Int32 → MS → Prop) (K141 : Int32 → Int32 → Int32 → Int32 → MS → Prop) (post : Int32 → MS → Prop) (x1 : Int32) (x2 : Int32) (x3 : Int32) (x4 : Int32) (x5 : Int32) (x6 : Int32) (S : MS) : Prop :=
 (((4 : Int32) ≤ x6 →
 K141 x1 x2 x3 x4 S) ∧
 (¬ (4 : Int32) ≤ x6 →
 vp_in (((4 : Int32) * x5) + x6) 600 ∧ (((gM_nexts S (((4 : Int32) * x5) + x6).toNatClampNeg) = (-1 : Int32) →
 wp_X7_taker_249 rec_ post x1 x2 x3 x4 x5 x6 S) ∧
 (¬ (gM_nexts S (((4 : Int32) * x5) + x6).toNatClampNeg) = (-1 : Int32) →
 vp_in (((4 : Int32) * x5) + x6) 600 ∧ vp_in (((4 : Int32) * x5) + x6) 600 ∧ wp_X7_come_seen S (gM_nexts S (((4 : Int32) * x5) + x6).toNatClampNeg) (gM_nexts S (((4 : Int32) * x5) + x6).toNatClampNeg) (fun S246 =>
 wp_X7_taker_249 rec_ post x1 x2 x3 x4 x5 x6 S246)))))
def wp_X7_taker_195 (K141 : Int32 → Int32 → Int32 → Int32 → MS → Prop) (post : Int32 → MS → Prop) : Nat → Int32 → Int32 → Int32 → Int32 → Int32 → Int32 → MS → Prop
  | 0 => fun _ _ _ _ _ _ _ => False
  | n + 1 => ws_X7_taker_195 (wp_X7_taker_195 K141 post n) K141 post
def ws_X7_taker_141 (rec_ : Int32 → Int32 → Int32 → Int32 → MS → Prop) (K258 : Int32 → Int32 → Int32 → Int32 → MS → Prop) (post : Int32 → MS → Prop) (x1 : Int32) (x2 : Int32) (x3 : Int32) (x4 : Int32) (S : MS) : Prop :=
 (((gM_piled S) ≤ 0 →
 K258 x1 x2 x3 x4 S) ∧
 (¬ (gM_piled S) ≤ 0 →
 ∀ S_1 : MS, S_1 = sM_piled S ((gM_piled S) - (1 : Int32)) → vp_in (gM_piled S_1) 2400 ∧ ∀ x5_2 : Int32, x5_2 = gM_pile S_1 (gM_piled S_1).toNatClampNeg → ((¬ x5_2 = x1 →
 wp_X7_gives S_1 x5_2 x2 x3 (fun r183 S183 =>
 ((r183 = 0 →
 (∃ n_, wp_X7_taker_195 rec_ post n_ x1 x2 x3 x4 x5_2 (0 : Int32) S183)) ∧
 (¬ r183 = 0 →
 rec_ x1 x2 x3 x4 S183)))) ∧
 (x5_2 = x1 →
 post x4 S_1))))
def wp_X7_taker_141 (K258 : Int32 → Int32 → Int32 → Int32 → MS → Prop) (post : Int32 → MS → Prop) : Nat → Int32 → Int32 → Int32 → Int32 → MS → Prop
  | 0 => fun _ _ _ _ _ => False
  | n + 1 => ws_X7_taker_141 (wp_X7_taker_141 K258 post n) K258 post
def ws_X7_taker_81 (rec_ : Int32 → Int32 → Int32 → Int32 → Int32 → MS → Prop) (K258 : Int32 → Int32 → Int32 → Int32 → MS → Prop) (post : Int32 → MS → Prop) (x1 : Int32) (x2 : Int32) (x3 : Int32) (x4 : Int32) (x5 : Int32) (S : MS) : Prop :=
 (((4 : Int32) ≤ x5 →
 (∃ n_, wp_X7_taker_141 K258 post n_ x1 x2 x3 x4 S)) ∧
 (¬ (4 : Int32) ≤ x5 →
 vp_in (((4 : Int32) * x4) + x5) 600 ∧ (((gM_nexts S (((4 : Int32) * x4) + x5).toNatClampNeg) = (-1 : Int32) →
 wp_X7_taker_135 rec_ post x1 x2 x3 x4 x5 S) ∧
 (¬ (gM_nexts S (((4 : Int32) * x4) + x5).toNatClampNeg) = (-1 : Int32) →
 vp_in (((4 : Int32) * x4) + x5) 600 ∧ vp_in (((4 : Int32) * x4) + x5) 600 ∧ wp_X7_come_seen S (gM_nexts S (((4 : Int32) * x4) + x5).toNatClampNeg) (gM_nexts S (((4 : Int32) * x4) + x5).toNatClampNeg) (fun S132 =>
 wp_X7_taker_135 rec_ post x1 x2 x3 x4 x5 S132)))))
def wp_X7_taker_81 (K258 : Int32 → Int32 → Int32 → Int32 → MS → Prop) (post : Int32 → MS → Prop) : Nat → Int32 → Int32 → Int32 → Int32 → Int32 → MS → Prop
  | 0 => fun _ _ _ _ _ _ => False
  | n + 1 => ws_X7_taker_81 (wp_X7_taker_81 K258 post n) K258 post
def ws_X7_taker_51 (rec_ : Int32 → Int32 → Int32 → Int32 → Int32 → MS → Prop) (K258 : Int32 → Int32 → Int32 → Int32 → MS → Prop) (post : Int32 → MS → Prop) (x1 : Int32) (x2 : Int32) (x3 : Int32) (x4 : Int32) (x5 : Int32) (S : MS) : Prop :=
 (((150 : Int32) ≤ x5 →
 ∀ S_1 : MS, S_1 = sM_piled S (0 : Int32) → (∃ n_, wp_X7_taker_81 K258 post n_ x1 x2 x3 x4 (0 : Int32) S_1)) ∧
 (¬ (150 : Int32) ≤ x5 →
 vp_in x5 150 ∧ ∀ S_2 : MS, S_2 = sM_seen S (upd (gM_seen S) (x5).toNatClampNeg (vp_nar .boolean (0 : Int32))) → ∀ x5_3 : Int32, x5_3 = x5 + (1 : Int32) → rec_ x1 x2 x3 x4 x5_3 S_2))
def wp_X7_taker_51 (K258 : Int32 → Int32 → Int32 → Int32 → MS → Prop) (post : Int32 → MS → Prop) : Nat → Int32 → Int32 → Int32 → Int32 → Int32 → MS → Prop
  | 0 => fun _ _ _ _ _ _ => False
  | n + 1 => ws_X7_taker_51 (wp_X7_taker_51 K258 post n) K258 post
def ws_X7_taker_16 (rec_ : Int32 → Int32 → Int32 → Int32 → MS → Prop) (post : Int32 → MS → Prop) (x1 : Int32) (x2 : Int32) (x3 : Int32) (x4 : Int32) (S : MS) : Prop :=
 (((150 : Int32) ≤ x4 →
 post (-1 : Int32) S) ∧
 (¬ (150 : Int32) ≤ x4 →
 vp_in x4 150 ∧ (((gM_come S (x4).toNatClampNeg) = 0 →
 wp_X7_taker_258 rec_ post x1 x2 x3 x4 S) ∧
 (¬ (gM_come S (x4).toNatClampNeg) = 0 →
 wp_X7_takes S x4 x2 x3 (fun r39 S39 =>
 ((¬ r39 = 0 →
 (∃ n_, wp_X7_taker_51 (fun x1 x2 x3 x4 S => wp_X7_taker_258 rec_ post x1 x2 x3 x4 S) post n_ x1 x2 x3 x4 (0 : Int32) S39)) ∧
 (r39 = 0 →
 wp_X7_taker_258 rec_ post x1 x2 x3 x4 S39)))))))
def wp_X7_taker_16 (post : Int32 → MS → Prop) : Nat → Int32 → Int32 → Int32 → Int32 → MS → Prop
  | 0 => fun _ _ _ _ _ => False
  | n + 1 => ws_X7_taker_16 (wp_X7_taker_16 post n) post
def wp_X7_taker (S : MS) (x1 : Int32) (post : Int32 → MS → Prop) : Prop :=
 vp_in x1 150 ∧ ∀ x2_1 : Int32, x2_1 = gM_of S (x1).toNatClampNeg → wp_X7_lackedBy S x1 (fun r9 S9 =>
 (∃ n_, wp_X7_taker_16 post n_ x1 x2_1 r9 (0 : Int32) S9))
def wp_X7_cell (S : MS) (x1 : Int32) (x2 : Int32) (x3 : Int32) (post : Int32 → MS → Prop) : Prop :=
 post (((((150 : Int32) * x1) + x2) * (16 : Int32)) + x3) S
def wp_X7_isUsed (S : MS) (x1 : Int32) (x2 : Int32) (post : Int32 → MS → Prop) : Prop :=
 vp_in x1 150 ∧ (((gM_come S (x1).toNatClampNeg) = 0 →
 post (0 : Int32) S) ∧
 (¬ (gM_come S (x1).toNatClampNeg) = 0 →
 wp_X7_renews S x1 x2 (fun r12 S12 =>
 ((¬ r12 = 0 →
 post (0 : Int32) S12) ∧
 (r12 = 0 →
 vp_in (((16 : Int32) * x1) + x2) 2400 ∧ (((gM_used S12 (((16 : Int32) * x1) + x2).toNatClampNeg) = 0 →
 post (0 : Int32) S12) ∧
 (¬ (gM_used S12 (((16 : Int32) * x1) + x2).toNatClampNeg) = 0 →
 post (1 : Int32) S12)))))))
def wp_X7_isInForce_64 (K5 : Int32 → Int32 → Int32 → Int32 → MS → Prop) (post : Int32 → MS → Prop) (x1 : Int32) (x2 : Int32) (x4 : Int32) (k0 : Int32) (S : MS) : Prop :=
 ∀ x4_1 : Int32, x4_1 = x4 + (1 : Int32) → K5 x1 x2 k0 x4_1 S
def wp_X7_isInForce_59 (K64 : Int32 → Int32 → Int32 → Int32 → MS → Prop) (post : Int32 → MS → Prop) (x1 : Int32) (x2 : Int32) (x4 : Int32) (S : MS) : Prop :=
 K64 x1 x2 x4 (1 : Int32) S
def wp_X7_isInForce_63 (K64 : Int32 → Int32 → Int32 → Int32 → MS → Prop) (post : Int32 → MS → Prop) (x1 : Int32) (x2 : Int32) (x4 : Int32) (S : MS) : Prop :=
 K64 x1 x2 x4 (0 : Int32) S
def ws_X7_isInForce_5 (rec_ : Int32 → Int32 → Int32 → Int32 → MS → Prop) (post : Int32 → MS → Prop) (x1 : Int32) (x2 : Int32) (x3 : Int32) (x4 : Int32) (S : MS) : Prop :=
 (((gM_nv S) ≤ x4 →
 ((x3 = 0 →
 post (0 : Int32) S) ∧
 (¬ x3 = 0 →
 vp_in x2 150 ∧ (((gM_come S (x2).toNatClampNeg) = 0 →
 post (0 : Int32) S) ∧
 (¬ (gM_come S (x2).toNatClampNeg) = 0 →
 post (1 : Int32) S))))) ∧
 (¬ (gM_nv S) ≤ x4 →
 ((¬ x3 = 0 →
 wp_X7_isInForce_59 (fun x1 x2 x4 k0 S => wp_X7_isInForce_64 rec_ post x1 x2 x4 k0 S) post x1 x2 x4 S) ∧
 (x3 = 0 →
 vp_in x4 16 ∧ (((gM_sort S (x4).toNatClampNeg) = 0 →
 wp_X7_isInForce_63 (fun x1 x2 x4 k0 S => wp_X7_isInForce_64 rec_ post x1 x2 x4 k0 S) post x1 x2 x4 S) ∧
 (¬ (gM_sort S (x4).toNatClampNeg) = 0 →
 vp_in x1 150 ∧ wp_X7_cell S (gM_rowOf S (x1).toNatClampNeg) x2 x4 (fun r42 S42 =>
 vp_in r42 360000 ∧ (((gM_holds S42 (r42).toNatClampNeg) = 0 →
 wp_X7_isInForce_63 (fun x1 x2 x4 k0 S => wp_X7_isInForce_64 rec_ post x1 x2 x4 k0 S) post x1 x2 x4 S42) ∧
 (¬ (gM_holds S42 (r42).toNatClampNeg) = 0 →
 wp_X7_isUsed S42 x2 x4 (fun r53 S53 =>
 ((r53 = 0 →
 wp_X7_isInForce_63 (fun x1 x2 x4 k0 S => wp_X7_isInForce_64 rec_ post x1 x2 x4 k0 S) post x1 x2 x4 S53) ∧
 (¬ r53 = 0 →
 wp_X7_isInForce_59 (fun x1 x2 x4 k0 S => wp_X7_isInForce_64 rec_ post x1 x2 x4 k0 S) post x1 x2 x4 S53))))))))))))
def wp_X7_isInForce_5 (post : Int32 → MS → Prop) : Nat → Int32 → Int32 → Int32 → Int32 → MS → Prop
  | 0 => fun _ _ _ _ _ => False
  | n + 1 => ws_X7_isInForce_5 (wp_X7_isInForce_5 post n) post
def wp_X7_isInForce (S : MS) (x1 : Int32) (x2 : Int32) (post : Int32 → MS → Prop) : Prop :=
 (∃ n_, wp_X7_isInForce_5 post n_ x1 x2 (0 : Int32) (0 : Int32) S)
def wp_X7_begins__32 (post : Int32 → MS → Prop) (x3 : Int32) (S : MS) : Prop :=
 ((¬ x3 = 0 →
 post (0 : Int32) S) ∧
 (x3 = 0 →
 post (1 : Int32) S))
def ws_X7_begins__4 (rec_ : Int32 → Int32 → MS → Prop) (post : Int32 → MS → Prop) (x2 : Int32) (x3 : Int32) (S : MS) : Prop :=
 ((x3 ≤ 0 →
 wp_X7_begins__32 post x3 S) ∧
 (¬ x3 ≤ 0 →
 ((¬ (x2 - x2 / (8 : Int32) * (8 : Int32)) = (x3 - x3 / (8 : Int32) * (8 : Int32)) →
 wp_X7_begins__32 post x3 S) ∧
 ((x2 - x2 / (8 : Int32) * (8 : Int32)) = (x3 - x3 / (8 : Int32) * (8 : Int32)) →
 ∀ x2_1 : Int32, x2_1 = x2 / (8 : Int32) → ∀ x3_2 : Int32, x3_2 = x3 / (8 : Int32) → rec_ x2_1 x3_2 S))))
def wp_X7_begins__4 (post : Int32 → MS → Prop) : Nat → Int32 → Int32 → MS → Prop
  | 0 => fun _ _ _ => False
  | n + 1 => ws_X7_begins__4 (wp_X7_begins__4 post n) post
def wp_X7_begins_ (S : MS) (x0 : Int32) (x1 : Int32) (post : Int32 → MS → Prop) : Prop :=
 (∃ n_, wp_X7_begins__4 post n_ x0 x1 S)
def wp_X7_clashes_151 (post : Int32 → MS → Prop) (x1 : Int32) (x5 : Int32) (S : MS) : Prop :=
 vp_in x1 150 ∧ wp_X7_begins_ S x5 (gM_path S (x1).toNatClampNeg) (fun r159 S159 =>
 ((¬ r159 = 0 →
 post (1 : Int32) S159) ∧
 (r159 = 0 →
 vp_in x1 150 ∧ wp_X7_begins_ S159 (gM_path S159 (x1).toNatClampNeg) x5 (fun r173 S173 =>
 ((r173 = 0 →
 post (0 : Int32) S173) ∧
 (¬ r173 = 0 →
 post (1 : Int32) S173))))))
def wp_X7_clashes_129 (post : Int32 → MS → Prop) (x1 : Int32) (x4 : Int32) (k0 : Int32) (S : MS) : Prop :=
 vp_in x1 150 ∧ vp_in (gM_to S (x1).toNatClampNeg) 16 ∧ (((gM_sort S (gM_to S (x1).toNatClampNeg).toNatClampNeg) = (2 : Int32) →
 wp_X7_clashes_151 post x1 k0 S) ∧
 (¬ (gM_sort S (gM_to S (x1).toNatClampNeg).toNatClampNeg) = (2 : Int32) →
 ((¬ x4 = 0 →
 post (0 : Int32) S) ∧
 (x4 = 0 →
 wp_X7_clashes_151 post x1 k0 S))))
def wp_X7_clashes_119 (K129 : Int32 → Int32 → Int32 → MS → Prop) (post : Int32 → MS → Prop) (x1 : Int32) (x4 : Int32) (S : MS) : Prop :=
 K129 x1 x4 (0 : Int32) S
def wp_X7_clashes_105 (post : Int32 → MS → Prop) (x1 : Int32) (x2 : Int32) (x3 : Int32) (k0 : Int32) (S : MS) : Prop :=
 ((x3 = (6 : Int32) →
 wp_X7_clashes_119 (fun x1 x4 k0 S => wp_X7_clashes_129 post x1 x4 k0 S) post x1 k0 S) ∧
 (¬ x3 = (6 : Int32) →
 ((¬ x3 = (8 : Int32) →
 vp_in x2 150 ∧ wp_X7_clashes_129 post x1 k0 (gM_path S (x2).toNatClampNeg) S) ∧
 (x3 = (8 : Int32) →
 wp_X7_clashes_119 (fun x1 x4 k0 S => wp_X7_clashes_129 post x1 x4 k0 S) post x1 k0 S))))
def wp_X7_clashes_100 (K105 : Int32 → Int32 → Int32 → Int32 → MS → Prop) (post : Int32 → MS → Prop) (x1 : Int32) (x2 : Int32) (x3 : Int32) (S : MS) : Prop :=
 K105 x1 x2 x3 (1 : Int32) S
def wp_X7_clashes_104 (K105 : Int32 → Int32 → Int32 → Int32 → MS → Prop) (post : Int32 → MS → Prop) (x1 : Int32) (x2 : Int32) (x3 : Int32) (S : MS) : Prop :=
 K105 x1 x2 x3 (0 : Int32) S
def wp_X7_clashes_79 (K100 : Int32 → Int32 → Int32 → MS → Prop) (K105 : Int32 → Int32 → Int32 → Int32 → MS → Prop) (post : Int32 → MS → Prop) (x1 : Int32) (x2 : Int32) (x3 : Int32) (S : MS) : Prop :=
 ((¬ x3 = (8 : Int32) →
 wp_X7_clashes_104 K105 post x1 x2 x3 S) ∧
 (x3 = (8 : Int32) →
 vp_in x2 150 ∧ vp_in (gM_of S (x2).toNatClampNeg) 16 ∧ ((¬ (gM_sort S (gM_of S (x2).toNatClampNeg).toNatClampNeg) = (1 : Int32) →
 wp_X7_clashes_104 K105 post x1 x2 x3 S) ∧
 ((gM_sort S (gM_of S (x2).toNatClampNeg).toNatClampNeg) = (1 : Int32) →
 K100 x1 x2 x3 S))))
def wp_X7_clashes_53 (post : Int32 → MS → Prop) (x1 : Int32) (x2 : Int32) (x3 : Int32) (S : MS) : Prop :=
 ((x3 = (1 : Int32) →
 wp_X7_clashes_100 (fun x1 x2 x3 k0 S => wp_X7_clashes_105 post x1 x2 x3 k0 S) post x1 x2 x3 S) ∧
 (¬ x3 = (1 : Int32) →
 ((¬ x3 = (7 : Int32) →
 wp_X7_clashes_79 (fun x1 x2 x3 S => wp_X7_clashes_100 (fun x1 x2 x3 k0 S => wp_X7_clashes_105 post x1 x2 x3 k0 S) post x1 x2 x3 S) (fun x1 x2 x3 k0 S => wp_X7_clashes_105 post x1 x2 x3 k0 S) post x1 x2 x3 S) ∧
 (x3 = (7 : Int32) →
 vp_in x2 150 ∧ vp_in (gM_to S (x2).toNatClampNeg) 16 ∧ (((gM_sort S (gM_to S (x2).toNatClampNeg).toNatClampNeg) = (1 : Int32) →
 wp_X7_clashes_100 (fun x1 x2 x3 k0 S => wp_X7_clashes_105 post x1 x2 x3 k0 S) post x1 x2 x3 S) ∧
 (¬ (gM_sort S (gM_to S (x2).toNatClampNeg).toNatClampNeg) = (1 : Int32) →
 wp_X7_clashes_79 (fun x1 x2 x3 S => wp_X7_clashes_100 (fun x1 x2 x3 k0 S => wp_X7_clashes_105 post x1 x2 x3 k0 S) post x1 x2 x3 S) (fun x1 x2 x3 k0 S => wp_X7_clashes_105 post x1 x2 x3 k0 S) post x1 x2 x3 S))))))
def wp_X7_clashes (S : MS) (x1 : Int32) (x2 : Int32) (post : Int32 → MS → Prop) : Prop :=
 vp_in x2 150 ∧ ∀ x3_1 : Int32, x3_1 = gM_acts S (x2).toNatClampNeg → ((x3_1 = 0 →
 post (0 : Int32) S) ∧
 (¬ x3_1 = 0 →
 ((x3_1 = (5 : Int32) →
 post (0 : Int32) S) ∧
 (¬ x3_1 = (5 : Int32) →
 vp_in x2 150 ∧ vp_in x1 150 ∧ ((¬ (gM_of S (x2).toNatClampNeg) = (gM_of S (x1).toNatClampNeg) →
 post (0 : Int32) S) ∧
 ((gM_of S (x2).toNatClampNeg) = (gM_of S (x1).toNatClampNeg) →
 ((¬ x3_1 = (6 : Int32) →
 wp_X7_clashes_53 post x1 x2 x3_1 S) ∧
 (x3_1 = (6 : Int32) →
 vp_in x2 150 ∧ vp_in (gM_of S (x2).toNatClampNeg) 16 ∧ (((gM_sort S (gM_of S (x2).toNatClampNeg).toNatClampNeg) = 0 →
 wp_X7_clashes_53 post x1 x2 x3_1 S) ∧
 (¬ (gM_sort S (gM_of S (x2).toNatClampNeg).toNatClampNeg) = 0 →
 post (0 : Int32) S))))))))))
def wp_X7_look_67 (K6 : Int32 → Int32 → Int32 → MS → Prop) (post : MS → Prop) (x1 : Int32) (x2 : Int32) (x3 : Int32) (S : MS) : Prop :=
 ∀ x3_1 : Int32, x3_1 = x3 + (-1 : Int32) → K6 x1 x2 x3_1 S
def wp_X7_look_120 (post : MS → Prop) (x1 : Int32) (S : MS) : Prop :=
 wp_X7_lackedBy S x1 (fun r122 S122 =>
 ((¬ r122 = (-1 : Int32) →
 ∀ S_1 : MS, S_1 = sM_lacking S122 ((gM_lacking S122) + (1 : Int32)) → ∀ S_2 : MS, S_2 = sM_fault S_1 (3 : Int32) → ∀ S_3 : MS, S_3 = sM_faultP S_2 x1 → post S_3) ∧
 (r122 = (-1 : Int32) →
 post S122)))
def wp_X7_look_88 (post : MS → Prop) (x1 : Int32) (x2 : Int32) (k0 : Int32) (k1 : Int32) (S : MS) : Prop :=
 ∀ S_1 : MS, S_1 = sM_clashing S (k1 + k0) → ((x2 = (-1 : Int32) →
 wp_X7_look_120 post x1 S_1) ∧
 (¬ x2 = (-1 : Int32) →
 (((gM_fault S_1) = (3 : Int32) →
 wp_X7_look_120 post x1 S_1) ∧
 (¬ (gM_fault S_1) = (3 : Int32) →
 ∀ S_2 : MS, S_2 = sM_fault S_1 (4 : Int32) → ∀ S_3 : MS, S_3 = sM_faultP S_2 x1 → ∀ S_4 : MS, S_4 = sM_otherP S_3 x2 → wp_X7_look_120 post x1 S_4))))
def ws_X7_look_6 (rec_ : Int32 → Int32 → Int32 → MS → Prop) (post : MS → Prop) (x1 : Int32) (x2 : Int32) (x3 : Int32) (S : MS) : Prop :=
 ((x3 < 0 →
 ((x2 = (-1 : Int32) →
 wp_X7_look_88 post x1 x2 (0 : Int32) (gM_clashing S) S) ∧
 (¬ x2 = (-1 : Int32) →
 wp_X7_look_88 post x1 x2 (1 : Int32) (gM_clashing S) S))) ∧
 (¬ x3 < 0 →
 vp_in x3 150 ∧ ((¬ (gM_rowOf S (x3).toNatClampNeg) = (-1 : Int32) →
 wp_X7_isInForce S x3 x1 (fun r37 S37 =>
 vp_in (((150 : Int32) * x3) + x1) 22500 ∧ ∀ S_1 : MS, S_1 = sM_force S37 (upd (gM_force S37) (((150 : Int32) * x3) + x1).toNatClampNeg (vp_nar .boolean r37)) → vp_in (((150 : Int32) * x3) + x1) 22500 ∧ (((gM_force S_1 (((150 : Int32) * x3) + x1).toNatClampNeg) = 0 →
 wp_X7_look_67 rec_ post x1 x2 x3 S_1) ∧
 (¬ (gM_force S_1 (((150 : Int32) * x3) + x1).toNatClampNeg) = 0 →
 wp_X7_clashes S_1 x3 x1 (fun r59 S59 =>
 ((r59 = 0 →
 wp_X7_look_67 rec_ post x1 x2 x3 S59) ∧
 (¬ r59 = 0 →
 wp_X7_look_67 rec_ post x1 x3 x3 S59))))))) ∧
 ((gM_rowOf S (x3).toNatClampNeg) = (-1 : Int32) →
 wp_X7_look_67 rec_ post x1 x2 x3 S))))
def wp_X7_look_6 (post : MS → Prop) : Nat → Int32 → Int32 → Int32 → MS → Prop
  | 0 => fun _ _ _ _ => False
  | n + 1 => ws_X7_look_6 (wp_X7_look_6 post n) post
def wp_X7_look (S : MS) (x1 : Int32) (post : MS → Prop) : Prop :=
 (∃ n_, wp_X7_look_6 post n_ x1 (-1 : Int32) (149 : Int32) S)
def wp_X7_makesLoan (S : MS) (x1 : Int32) (post : Int32 → MS → Prop) : Prop :=
 vp_in x1 150 ∧ ((¬ (gM_acts S (x1).toNatClampNeg) = (7 : Int32) →
 post (0 : Int32) S) ∧
 ((gM_acts S (x1).toNatClampNeg) = (7 : Int32) →
 vp_in x1 150 ∧ vp_in x1 150 ∧ wp_X7_isThrough S (gM_of S (x1).toNatClampNeg) (gM_path S (x1).toNatClampNeg) (fun r24 S24 =>
 ((r24 = 0 →
 post (1 : Int32) S24) ∧
 (¬ r24 = 0 →
 vp_in x1 150 ∧ vp_in (gM_of S24 (x1).toNatClampNeg) 16 ∧ (((gM_sort S24 (gM_of S24 (x1).toNatClampNeg).toNatClampNeg) = (1 : Int32) →
 post (0 : Int32) S24) ∧
 (¬ (gM_sort S24 (gM_of S24 (x1).toNatClampNeg).toNatClampNeg) = (1 : Int32) →
 post (1 : Int32) S24)))))))
def wp_X7_spread_97 (K11 : Int32 → Int32 → Int32 → Int32 → MS → Prop) (post : MS → Prop) (x2 : Int32) (x3 : Int32) (x4 : Int32) (x5 : Int32) (S : MS) : Prop :=
 ∀ x5_1 : Int32, x5_1 = x5 + (1 : Int32) → K11 x2 x3 x4 x5_1 S
def ws_X7_spread_11 (rec_ : Int32 → Int32 → Int32 → Int32 → MS → Prop) (post : MS → Prop) (x2 : Int32) (x3 : Int32) (x4 : Int32) (x5 : Int32) (S : MS) : Prop :=
 (((4 : Int32) ≤ x5 →
 post S) ∧
 (¬ (4 : Int32) ≤ x5 →
 vp_in (((4 : Int32) * x2) + x5) 600 ∧ ∀ x6_1 : Int32, x6_1 = gM_nexts S (((4 : Int32) * x2) + x5).toNatClampNeg → ((x6_1 = (-1 : Int32) →
 wp_X7_spread_97 rec_ post x2 x3 x4 x5 S) ∧
 (¬ x6_1 = (-1 : Int32) →
 wp_X7_cell S x4 x6_1 x3 (fun r46 S46 =>
 vp_in r46 360000 ∧ (((gM_holds S46 (r46).toNatClampNeg) = 0 →
 wp_X7_cell S46 x4 x6_1 x3 (fun r66 S66 =>
 vp_in r66 360000 ∧ ∀ S_2 : MS, S_2 = sM_holds S66 (upd (gM_holds S66) (r66).toNatClampNeg (vp_nar .boolean (1 : Int32))) → vp_in (gM_piled S_2) 2400 ∧ ∀ S_3 : MS, S_3 = sM_pile S_2 (upd (gM_pile S_2) (gM_piled S_2).toNatClampNeg (((16 : Int32) * x6_1) + x3)) → ∀ S_4 : MS, S_4 = sM_piled S_3 ((gM_piled S_3) + (1 : Int32)) → wp_X7_spread_97 rec_ post x2 x3 x4 x5 S_4)) ∧
 (¬ (gM_holds S46 (r46).toNatClampNeg) = 0 →
 wp_X7_spread_97 rec_ post x2 x3 x4 x5 S46)))))))
def wp_X7_spread_11 (post : MS → Prop) : Nat → Int32 → Int32 → Int32 → Int32 → MS → Prop
  | 0 => fun _ _ _ _ _ => False
  | n + 1 => ws_X7_spread_11 (wp_X7_spread_11 post n) post
def wp_X7_spread (S : MS) (x1 : Int32) (x2 : Int32) (x3 : Int32) (post : MS → Prop) : Prop :=
 vp_in x1 150 ∧ ∀ x4_1 : Int32, x4_1 = gM_rowOf S (x1).toNatClampNeg → (∃ n_, wp_X7_spread_11 post n_ x2 x3 x4_1 (0 : Int32) S)
def wp_X7_renewed_22 (post : Int32 → MS → Prop) (x1 : Int32) (S : MS) : Prop :=
 vp_in x1 150 ∧ post (gM_to S (x1).toNatClampNeg) S
def wp_X7_renewed (S : MS) (x1 : Int32) (post : Int32 → MS → Prop) : Prop :=
 vp_in x1 150 ∧ (((gM_acts S (x1).toNatClampNeg) = (7 : Int32) →
 wp_X7_renewed_22 post x1 S) ∧
 (¬ (gM_acts S (x1).toNatClampNeg) = (7 : Int32) →
 vp_in x1 150 ∧ ((¬ (gM_acts S (x1).toNatClampNeg) = (8 : Int32) →
 vp_in x1 150 ∧ ((¬ (gM_acts S (x1).toNatClampNeg) = (5 : Int32) →
 post (-1 : Int32) S) ∧
 ((gM_acts S (x1).toNatClampNeg) = (5 : Int32) →
 vp_in x1 150 ∧ vp_in (gM_of S (x1).toNatClampNeg) 16 ∧ (((gM_sort S (gM_of S (x1).toNatClampNeg).toNatClampNeg) = 0 →
 post (-1 : Int32) S) ∧
 (¬ (gM_sort S (gM_of S (x1).toNatClampNeg).toNatClampNeg) = 0 →
 vp_in x1 150 ∧ post (gM_of S (x1).toNatClampNeg) S))))) ∧
 ((gM_acts S (x1).toNatClampNeg) = (8 : Int32) →
 wp_X7_renewed_22 post x1 S))))
def wp_X7_goesThrough (S : MS) (x1 : Int32) (x2 : Int32) (post : Int32 → MS → Prop) : Prop :=
 vp_in x1 150 ∧ ((¬ (gM_of S (x1).toNatClampNeg) = x2 →
 post (0 : Int32) S) ∧
 ((gM_of S (x1).toNatClampNeg) = x2 →
 vp_in x1 150 ∧ wp_X7_isThrough S x2 (gM_path S (x1).toNatClampNeg) (fun r18 S18 =>
 ((r18 = 0 →
 post (0 : Int32) S18) ∧
 (¬ r18 = 0 →
 post (1 : Int32) S18)))))
def wp_X7_walkLoan_256 (K76 : Int32 → MS → Prop) (post : MS → Prop) (x1 : Int32) (S : MS) : Prop :=
 K76 x1 S
def wp_X7_walkLoan_237 (K76 : Int32 → MS → Prop) (post : MS → Prop) (x1 : Int32) (x3 : Int32) (k0 : Int32) (S : MS) : Prop :=
 ((k0 = 0 →
 wp_X7_walkLoan_256 K76 post x1 S) ∧
 (¬ k0 = 0 →
 vp_in x3 150 ∧ wp_X7_spread S x1 x3 (gM_to S (x3).toNatClampNeg) (fun S253 =>
 wp_X7_walkLoan_256 K76 post x1 S253)))
def wp_X7_walkLoan_232 (K237 : Int32 → Int32 → Int32 → MS → Prop) (post : MS → Prop) (x1 : Int32) (x3 : Int32) (S : MS) : Prop :=
 K237 x1 x3 (1 : Int32) S
def wp_X7_walkLoan_236 (K237 : Int32 → Int32 → Int32 → MS → Prop) (post : MS → Prop) (x1 : Int32) (x3 : Int32) (S : MS) : Prop :=
 K237 x1 x3 (0 : Int32) S
def wp_X7_walkLoan_195 (K232 : Int32 → Int32 → MS → Prop) (K237 : Int32 → Int32 → Int32 → MS → Prop) (post : MS → Prop) (x1 : Int32) (x3 : Int32) (x4 : Int32) (S : MS) : Prop :=
 vp_in x3 150 ∧ ((¬ (gM_acts S (x3).toNatClampNeg) = (7 : Int32) →
 wp_X7_walkLoan_236 K237 post x1 x3 S) ∧
 ((gM_acts S (x3).toNatClampNeg) = (7 : Int32) →
 vp_in x3 150 ∧ ((¬ (gM_of S (x3).toNatClampNeg) = x4 →
 wp_X7_walkLoan_236 K237 post x1 x3 S) ∧
 ((gM_of S (x3).toNatClampNeg) = x4 →
 vp_in x3 150 ∧ wp_X7_isThrough S x4 (gM_path S (x3).toNatClampNeg) (fun r226 S226 =>
 ((r226 = 0 →
 wp_X7_walkLoan_236 K237 post x1 x3 S226) ∧
 (¬ r226 = 0 →
 K232 x1 x3 S226)))))))
def wp_X7_walkLoan_173 (K76 : Int32 → MS → Prop) (post : MS → Prop) (x1 : Int32) (x3 : Int32) (x4 : Int32) (S : MS) : Prop :=
 vp_in x3 150 ∧ ((¬ (gM_acts S (x3).toNatClampNeg) = (8 : Int32) →
 wp_X7_walkLoan_195 (fun x1 x3 S => wp_X7_walkLoan_232 (fun x1 x3 k0 S => wp_X7_walkLoan_237 K76 post x1 x3 k0 S) post x1 x3 S) (fun x1 x3 k0 S => wp_X7_walkLoan_237 K76 post x1 x3 k0 S) post x1 x3 x4 S) ∧
 ((gM_acts S (x3).toNatClampNeg) = (8 : Int32) →
 vp_in x3 150 ∧ (((gM_of S (x3).toNatClampNeg) = x4 →
 wp_X7_walkLoan_232 (fun x1 x3 k0 S => wp_X7_walkLoan_237 K76 post x1 x3 k0 S) post x1 x3 S) ∧
 (¬ (gM_of S (x3).toNatClampNeg) = x4 →
 wp_X7_walkLoan_195 (fun x1 x3 S => wp_X7_walkLoan_232 (fun x1 x3 k0 S => wp_X7_walkLoan_237 K76 post x1 x3 k0 S) post x1 x3 S) (fun x1 x3 k0 S => wp_X7_walkLoan_237 K76 post x1 x3 k0 S) post x1 x3 x4 S))))
def wp_X7_walkLoan_148 (K76 : Int32 → MS → Prop) (post : MS → Prop) (x1 : Int32) (x3 : Int32) (x4 : Int32) (x5 : Int32) (k0 : Int32) (S : MS) : Prop :=
 ((k0 = 0 →
 ((x5 = x4 →
 wp_X7_walkLoan_173 K76 post x1 x3 x4 S) ∧
 (¬ x5 = x4 →
 wp_X7_spread S x1 x3 x4 (fun S170 =>
 wp_X7_walkLoan_173 K76 post x1 x3 x4 S170)))) ∧
 (¬ k0 = 0 →
 K76 x1 S))
def wp_X7_walkLoan_147 (K148 : Int32 → Int32 → Int32 → Int32 → Int32 → MS → Prop) (post : MS → Prop) (x1 : Int32) (x3 : Int32) (x4 : Int32) (x5 : Int32) (S : MS) : Prop :=
 K148 x1 x3 x4 x5 (0 : Int32) S
def ws_X7_walkLoan_76 (rec_ : Int32 → MS → Prop) (post : MS → Prop) (x1 : Int32) (S : MS) : Prop :=
 (((gM_piled S) ≤ 0 →
 post S) ∧
 (¬ (gM_piled S) ≤ 0 →
 ∀ S_1 : MS, S_1 = sM_piled S ((gM_piled S) - (1 : Int32)) → vp_in (gM_piled S_1) 2400 ∧ ∀ x3_2 : Int32, x3_2 = (gM_pile S_1 (gM_piled S_1).toNatClampNeg) / (16 : Int32) → vp_in (gM_piled S_1) 2400 ∧ ∀ x4_3 : Int32, x4_3 = (gM_pile S_1 (gM_piled S_1).toNatClampNeg) - (gM_pile S_1 (gM_piled S_1).toNatClampNeg) / (16 : Int32) * (16 : Int32) → wp_X7_renewed S_1 x3_2 (fun r122 S122 =>
 ((r122 = (-1 : Int32) →
 wp_X7_walkLoan_147 (fun x1 x3 x4 x5 k0 S => wp_X7_walkLoan_148 rec_ post x1 x3 x4 x5 k0 S) post x1 x3_2 x4_3 r122 S122) ∧
 (¬ r122 = (-1 : Int32) →
 wp_X7_goesThrough S122 x1 r122 (fun r137 S137 =>
 ((r137 = 0 →
 wp_X7_walkLoan_147 (fun x1 x3 x4 x5 k0 S => wp_X7_walkLoan_148 rec_ post x1 x3 x4 x5 k0 S) post x1 x3_2 x4_3 r122 S137) ∧
 (¬ r137 = 0 →
 wp_X7_walkLoan_148 rec_ post x1 x3_2 x4_3 r122 (1 : Int32) S137))))))))
def wp_X7_walkLoan_76 (post : MS → Prop) : Nat → Int32 → MS → Prop
  | 0 => fun _ _ => False
  | n + 1 => ws_X7_walkLoan_76 (wp_X7_walkLoan_76 post n) post
def ws_X7_walkLoan_14 (rec_ : Int32 → Int32 → Int32 → MS → Prop) (post : MS → Prop) (x1 : Int32) (x2 : Int32) (x3 : Int32) (S : MS) : Prop :=
 (((2400 : Int32) ≤ x3 →
 vp_in x1 150 ∧ ((¬ (gM_come S (x1).toNatClampNeg) = 0 →
 vp_in x1 150 ∧ wp_X7_goesThrough S x1 (gM_to S (x1).toNatClampNeg) (fun r58 S58 =>
 ((¬ r58 = 0 →
 (∃ n_, wp_X7_walkLoan_76 post n_ x1 S58)) ∧
 (r58 = 0 →
 vp_in x1 150 ∧ wp_X7_spread S58 x1 x1 (gM_to S58 (x1).toNatClampNeg) (fun S73 =>
 (∃ n_, wp_X7_walkLoan_76 post n_ x1 S73)))))) ∧
 ((gM_come S (x1).toNatClampNeg) = 0 →
 post S))) ∧
 (¬ (2400 : Int32) ≤ x3 →
 vp_in (((2400 : Int32) * x2) + x3) 360000 ∧ ∀ S_1 : MS, S_1 = sM_holds S (upd (gM_holds S) (((2400 : Int32) * x2) + x3).toNatClampNeg (vp_nar .boolean (0 : Int32))) → ∀ x3_2 : Int32, x3_2 = x3 + (1 : Int32) → rec_ x1 x2 x3_2 S_1))
def wp_X7_walkLoan_14 (post : MS → Prop) : Nat → Int32 → Int32 → Int32 → MS → Prop
  | 0 => fun _ _ _ _ => False
  | n + 1 => ws_X7_walkLoan_14 (wp_X7_walkLoan_14 post n) post
def wp_X7_walkLoan (S : MS) (x1 : Int32) (post : MS → Prop) : Prop :=
 ∀ S_1 : MS, S_1 = sM_piled S (0 : Int32) → vp_in x1 150 ∧ ∀ x2_2 : Int32, x2_2 = gM_rowOf S_1 (x1).toNatClampNeg → (∃ n_, wp_X7_walkLoan_14 post n_ x1 x2_2 (0 : Int32) S_1)
def wp_X7_come_come (S : MS) (x2 : Int32) (x3 : Int32) (post : MS → Prop) : Prop :=
 vp_in x2 150 ∧ (((gM_come S (x2).toNatClampNeg) = 0 →
 vp_in x2 150 ∧ ∀ S_1 : MS, S_1 = sM_come S (upd (gM_come S) (x2).toNatClampNeg (vp_nar .boolean (1 : Int32))) → vp_in (gM_piled S_1) 2400 ∧ ∀ S_2 : MS, S_2 = sM_pile S_1 (upd (gM_pile S_1) (gM_piled S_1).toNatClampNeg x3) → ∀ S_3 : MS, S_3 = sM_piled S_2 ((gM_piled S_2) + (1 : Int32)) → post S_3) ∧
 (¬ (gM_come S (x2).toNatClampNeg) = 0 →
 post S))
def wp_X7_walkWays_113 (K66 : Int32 → Int32 → MS → Prop) (post : MS → Prop) (x1 : Int32) (x2 : Int32) (S : MS) : Prop :=
 ∀ x2_1 : Int32, x2_1 = x2 + (1 : Int32) → K66 x1 x2_1 S
def ws_X7_walkWays_66 (rec_ : Int32 → Int32 → MS → Prop) (K37 : MS → Prop) (post : MS → Prop) (x1 : Int32) (x2 : Int32) (S : MS) : Prop :=
 (((4 : Int32) ≤ x2 →
 K37 S) ∧
 (¬ (4 : Int32) ≤ x2 →
 vp_in (((4 : Int32) * x1) + x2) 600 ∧ (((gM_nexts S (((4 : Int32) * x1) + x2).toNatClampNeg) = (-1 : Int32) →
 wp_X7_walkWays_113 rec_ post x1 x2 S) ∧
 (¬ (gM_nexts S (((4 : Int32) * x1) + x2).toNatClampNeg) = (-1 : Int32) →
 vp_in (((4 : Int32) * x1) + x2) 600 ∧ vp_in (((4 : Int32) * x1) + x2) 600 ∧ wp_X7_come_come S (gM_nexts S (((4 : Int32) * x1) + x2).toNatClampNeg) (gM_nexts S (((4 : Int32) * x1) + x2).toNatClampNeg) (fun S110 =>
 wp_X7_walkWays_113 rec_ post x1 x2 S110)))))
def wp_X7_walkWays_66 (K37 : MS → Prop) (post : MS → Prop) : Nat → Int32 → Int32 → MS → Prop
  | 0 => fun _ _ _ => False
  | n + 1 => ws_X7_walkWays_66 (wp_X7_walkWays_66 K37 post n) K37 post
def ws_X7_walkWays_37 (rec_ : MS → Prop) (post : MS → Prop) (S : MS) : Prop :=
 (((gM_piled S) ≤ 0 →
 post S) ∧
 (¬ (gM_piled S) ≤ 0 →
 ∀ S_1 : MS, S_1 = sM_piled S ((gM_piled S) - (1 : Int32)) → vp_in (gM_piled S_1) 2400 ∧ ∀ x1_2 : Int32, x1_2 = gM_pile S_1 (gM_piled S_1).toNatClampNeg → (∃ n_, wp_X7_walkWays_66 rec_ post n_ x1_2 (0 : Int32) S_1)))
def wp_X7_walkWays_37 (post : MS → Prop) : Nat → MS → Prop
  | 0 => fun _ => False
  | n + 1 => ws_X7_walkWays_37 (wp_X7_walkWays_37 post n) post
def ws_X7_walkWays_2 (rec_ : Int32 → MS → Prop) (post : MS → Prop) (x1 : Int32) (S : MS) : Prop :=
 (((150 : Int32) ≤ x1 →
 ∀ S_1 : MS, S_1 = sM_piled S (0 : Int32) → wp_X7_come_come S_1 (0 : Int32) (0 : Int32) (fun S34 =>
 (∃ n_, wp_X7_walkWays_37 post n_ S34))) ∧
 (¬ (150 : Int32) ≤ x1 →
 vp_in x1 150 ∧ ∀ S_2 : MS, S_2 = sM_come S (upd (gM_come S) (x1).toNatClampNeg (vp_nar .boolean (0 : Int32))) → ∀ x1_3 : Int32, x1_3 = x1 + (1 : Int32) → rec_ x1_3 S_2))
def wp_X7_walkWays_2 (post : MS → Prop) : Nat → Int32 → MS → Prop
  | 0 => fun _ _ => False
  | n + 1 => ws_X7_walkWays_2 (wp_X7_walkWays_2 post n) post
def wp_X7_walkWays (S : MS) (post : MS → Prop) : Prop :=
 (∃ n_, wp_X7_walkWays_2 post n_ (0 : Int32) S)
def wp_X7_workOut_81 (K19 : Int32 → MS → Prop) (post : MS → Prop) (x1 : Int32) (S : MS) : Prop :=
 ∀ x1_1 : Int32, x1_1 = x1 + (1 : Int32) → K19 x1_1 S
def ws_X7_workOut_29 (rec_ : Int32 → Int32 → MS → Prop) (K19 : Int32 → MS → Prop) (post : MS → Prop) (x1 : Int32) (x2 : Int32) (S : MS) : Prop :=
 vp_in x1 16 ∧ (((gM_lvs S (x1).toNatClampNeg) ≤ x2 →
 vp_in x1 16 ∧ (((gM_sort S (x1).toNatClampNeg) = 0 →
 wp_X7_workOut_81 K19 post x1 S) ∧
 (¬ (gM_sort S (x1).toNatClampNeg) = 0 →
 wp_X7_walkUses S x1 (fun S78 =>
 wp_X7_workOut_81 K19 post x1 S78)))) ∧
 (¬ (gM_lvs S (x1).toNatClampNeg) ≤ x2 →
 wp_X7_walkLeaf_lost S x1 x2 (0 : Int32) (fun S47 =>
 wp_X7_walkLeaf_had S47 x1 x2 (1 : Int32) (fun S58 =>
 ∀ x2_1 : Int32, x2_1 = x2 + (1 : Int32) → rec_ x1 x2_1 S58))))
def wp_X7_workOut_29 (K19 : Int32 → MS → Prop) (post : MS → Prop) : Nat → Int32 → Int32 → MS → Prop
  | 0 => fun _ _ _ => False
  | n + 1 => ws_X7_workOut_29 (wp_X7_workOut_29 K19 post n) K19 post
def wp_X7_workOut_131 (K91 : Int32 → Int32 → MS → Prop) (post : MS → Prop) (x1 : Int32) (x2 : Int32) (S : MS) : Prop :=
 ∀ x2_1 : Int32, x2_1 = x2 + (1 : Int32) → K91 x1 x2_1 S
def wp_X7_workOut_184 (K166 : Int32 → MS → Prop) (post : MS → Prop) (x2 : Int32) (S : MS) : Prop :=
 ∀ x2_1 : Int32, x2_1 = x2 + (-1 : Int32) → K166 x2_1 S
def ws_X7_workOut_166 (rec_ : Int32 → MS → Prop) (post : MS → Prop) (x2 : Int32) (S : MS) : Prop :=
 ((x2 < 0 →
 ((¬ (gM_fault S) = (3 : Int32) →
 post S) ∧
 ((gM_fault S) = (3 : Int32) →
 wp_X7_taker S (gM_faultP S) (fun r204 S204 =>
 ∀ S_1 : MS, S_1 = sM_otherP S204 r204 → post S_1)))) ∧
 (¬ x2 < 0 →
 vp_in x2 150 ∧ (((gM_come S (x2).toNatClampNeg) = 0 →
 wp_X7_workOut_184 rec_ post x2 S) ∧
 (¬ (gM_come S (x2).toNatClampNeg) = 0 →
 wp_X7_look S x2 (fun S181 =>
 wp_X7_workOut_184 rec_ post x2 S181)))))
def wp_X7_workOut_166 (post : MS → Prop) : Nat → Int32 → MS → Prop
  | 0 => fun _ _ => False
  | n + 1 => ws_X7_workOut_166 (wp_X7_workOut_166 post n) post
def ws_X7_workOut_91 (rec_ : Int32 → Int32 → MS → Prop) (post : MS → Prop) (x1 : Int32) (x2 : Int32) (S : MS) : Prop :=
 (((150 : Int32) ≤ x2 →
 ∀ S_1 : MS, S_1 = sM_fault S (0 : Int32) → ∀ S_2 : MS, S_2 = sM_faultP S_1 (-1 : Int32) → ∀ S_3 : MS, S_3 = sM_otherP S_2 (-1 : Int32) → ∀ S_4 : MS, S_4 = sM_lacking S_3 (0 : Int32) → ∀ S_5 : MS, S_5 = sM_clashing S_4 (0 : Int32) → (∃ n_, wp_X7_workOut_166 post n_ (149 : Int32) S_5)) ∧
 (¬ (150 : Int32) ≤ x2 →
 vp_in x2 150 ∧ ∀ S_6 : MS, S_6 = sM_rowOf S (upd (gM_rowOf S) (x2).toNatClampNeg (-1 : Int32)) → wp_X7_makesLoan S_6 x2 (fun r107 S107 =>
 ((¬ r107 = 0 →
 vp_in x2 150 ∧ ∀ S_7 : MS, S_7 = sM_rowOf S107 (upd (gM_rowOf S107) (x2).toNatClampNeg x1) → ∀ x1_8 : Int32, x1_8 = x1 + (1 : Int32) → wp_X7_walkLoan S_7 x2 (fun S128 =>
 wp_X7_workOut_131 rec_ post x1_8 x2 S128)) ∧
 (r107 = 0 →
 wp_X7_workOut_131 rec_ post x1 x2 S107)))))
def wp_X7_workOut_91 (post : MS → Prop) : Nat → Int32 → Int32 → MS → Prop
  | 0 => fun _ _ _ => False
  | n + 1 => ws_X7_workOut_91 (wp_X7_workOut_91 post n) post
def ws_X7_workOut_19 (rec_ : Int32 → MS → Prop) (post : MS → Prop) (x1 : Int32) (S : MS) : Prop :=
 (((gM_nv S) ≤ x1 →
 (∃ n_, wp_X7_workOut_91 post n_ (0 : Int32) (0 : Int32) S)) ∧
 (¬ (gM_nv S) ≤ x1 →
 (∃ n_, wp_X7_workOut_29 rec_ post n_ x1 (0 : Int32) S)))
def wp_X7_workOut_19 (post : MS → Prop) : Nat → Int32 → MS → Prop
  | 0 => fun _ _ => False
  | n + 1 => ws_X7_workOut_19 (wp_X7_workOut_19 post n) post
def wp_X7_workOut (S : MS) (post : MS → Prop) : Prop :=
 ((¬ (gM_isOld S) = 0 →
 ∀ S_1 : MS, S_1 = sM_isOld S (0 : Int32) → wp_X7_walkWays S_1 (fun S14 =>
 (∃ n_, wp_X7_workOut_19 post n_ (0 : Int32) S14))) ∧
 ((gM_isOld S) = 0 →
 post S))
def wp_X7_judge (S : MS) (post : Int32 → MS → Prop) : Prop :=
 wp_X7_workOut S (fun S1 =>
 post (gM_fault S1) S1)
def wp_X7_fault (S : MS) (x1 : Int32) (post : Int32 → MS → Prop) : Prop :=
 wp_X7_workOut S (fun S1 =>
 ((¬ (gM_fault S1) = 0 →
 ((¬ x1 = (1 : Int32) →
 ((¬ x1 = (2 : Int32) →
 post (-1 : Int32) S1) ∧
 (x1 = (2 : Int32) →
 post (gM_otherP S1) S1))) ∧
 (x1 = (1 : Int32) →
 post (gM_faultP S1) S1))) ∧
 ((gM_fault S1) = 0 →
 post (-1 : Int32) S1)))
def wp_X7_comes (S : MS) (x1 : Int32) (post : Int32 → MS → Prop) : Prop :=
 wp_X7_isPoint S x1 (fun r1 S1 =>
 ((¬ r1 = 0 →
 wp_X7_workOut S1 (fun S10 =>
 vp_in x1 150 ∧ (((gM_come S10 (x1).toNatClampNeg) = 0 →
 post (0 : Int32) S10) ∧
 (¬ (gM_come S10 (x1).toNatClampNeg) = 0 →
 post (1 : Int32) S10)))) ∧
 (r1 = 0 →
 post (-1 : Int32) S1)))
def wp_X7_held (S : MS) (x1 : Int32) (x2 : Int32) (x3 : Int32) (post : Int32 → MS → Prop) : Prop :=
 wp_X7_isPoint S x1 (fun r1 S1 =>
 ((r1 = 0 →
 post (-1 : Int32) S1) ∧
 (¬ r1 = 0 →
 wp_X7_isVariable S1 x2 (fun r9 S9 =>
 ((r9 = 0 →
 post (-1 : Int32) S9) ∧
 (¬ r9 = 0 →
 vp_in x2 16 ∧ wp_X7_in S9 x3 (0 : Int32) ((gM_lvs S9 (x2).toNatClampNeg) - (1 : Int32)) (fun r25 S25 =>
 ((¬ r25 = 0 →
 wp_X7_workOut S25 (fun S34 =>
 vp_in x1 150 ∧ ((¬ (gM_come S34 (x1).toNatClampNeg) = 0 →
 ∀ x4_1 : Int32, x4_1 = (((64 : Int32) * x1) + ((4 : Int32) * x2)) + x3 → vp_in x4_1 9600 ∧ ((¬ (gM_lost S34 (x4_1).toNatClampNeg) = 0 →
 vp_in x4_1 9600 ∧ (((gM_had S34 (x4_1).toNatClampNeg) = 0 →
 post (0 : Int32) S34) ∧
 (¬ (gM_had S34 (x4_1).toNatClampNeg) = 0 →
 post (2 : Int32) S34))) ∧
 ((gM_lost S34 (x4_1).toNatClampNeg) = 0 →
 post (1 : Int32) S34))) ∧
 ((gM_come S34 (x1).toNatClampNeg) = 0 →
 post (-1 : Int32) S34)))) ∧
 (r25 = 0 →
 post (-1 : Int32) S25)))))))))
def wp_X7_holds (S : MS) (x1 : Int32) (x2 : Int32) (x3 : Int32) (post : Int32 → MS → Prop) : Prop :=
 wp_X7_isPoint S x1 (fun r1 S1 =>
 ((r1 = 0 →
 post (-1 : Int32) S1) ∧
 (¬ r1 = 0 →
 wp_X7_isReference S1 x2 (fun r9 S9 =>
 ((r9 = 0 →
 post (-1 : Int32) S9) ∧
 (¬ r9 = 0 →
 wp_X7_isPoint S9 x3 (fun r16 S16 =>
 ((r16 = 0 →
 post (-1 : Int32) S16) ∧
 (¬ r16 = 0 →
 wp_X7_makesLoan S16 x3 (fun r24 S24 =>
 ((¬ r24 = 0 →
 wp_X7_workOut S24 (fun S33 =>
 vp_in x1 150 ∧ (((gM_come S33 (x1).toNatClampNeg) = 0 →
 post (0 : Int32) S33) ∧
 (¬ (gM_come S33 (x1).toNatClampNeg) = 0 →
 vp_in x3 150 ∧ wp_X7_cell S33 (gM_rowOf S33 (x3).toNatClampNeg) x1 x2 (fun r58 S58 =>
 vp_in r58 360000 ∧ (((gM_holds S58 (r58).toNatClampNeg) = 0 →
 post (0 : Int32) S58) ∧
 (¬ (gM_holds S58 (r58).toNatClampNeg) = 0 →
 post (1 : Int32) S58))))))) ∧
 (r24 = 0 →
 post (-1 : Int32) S24))))))))))))
def wp_X7_used (S : MS) (x1 : Int32) (x2 : Int32) (post : Int32 → MS → Prop) : Prop :=
 wp_X7_isPoint S x1 (fun r1 S1 =>
 ((r1 = 0 →
 post (-1 : Int32) S1) ∧
 (¬ r1 = 0 →
 wp_X7_isReference S1 x2 (fun r9 S9 =>
 ((¬ r9 = 0 →
 wp_X7_workOut S9 (fun S18 =>
 vp_in x1 150 ∧ (((gM_come S18 (x1).toNatClampNeg) = 0 →
 post (0 : Int32) S18) ∧
 (¬ (gM_come S18 (x1).toNatClampNeg) = 0 →
 vp_in (((16 : Int32) * x1) + x2) 2400 ∧ (((gM_used S18 (((16 : Int32) * x1) + x2).toNatClampNeg) = 0 →
 post (0 : Int32) S18) ∧
 (¬ (gM_used S18 (((16 : Int32) * x1) + x2).toNatClampNeg) = 0 →
 post (1 : Int32) S18)))))) ∧
 (r9 = 0 →
 post (-1 : Int32) S9))))))
def wp_X7_force (S : MS) (x1 : Int32) (x2 : Int32) (post : Int32 → MS → Prop) : Prop :=
 wp_X7_isPoint S x2 (fun r1 S1 =>
 ((r1 = 0 →
 post (-1 : Int32) S1) ∧
 (¬ r1 = 0 →
 wp_X7_isPoint S1 x1 (fun r8 S8 =>
 ((r8 = 0 →
 post (-1 : Int32) S8) ∧
 (¬ r8 = 0 →
 wp_X7_makesLoan S8 x1 (fun r16 S16 =>
 ((¬ r16 = 0 →
 wp_X7_workOut S16 (fun S25 =>
 vp_in x2 150 ∧ (((gM_come S25 (x2).toNatClampNeg) = 0 →
 post (0 : Int32) S25) ∧
 (¬ (gM_come S25 (x2).toNatClampNeg) = 0 →
 vp_in (((150 : Int32) * x1) + x2) 22500 ∧ (((gM_force S25 (((150 : Int32) * x1) + x2).toNatClampNeg) = 0 →
 post (0 : Int32) S25) ∧
 (¬ (gM_force S25 (((150 : Int32) * x1) + x2).toNatClampNeg) = 0 →
 post (1 : Int32) S25)))))) ∧
 (r16 = 0 →
 post (-1 : Int32) S16)))))))))
def wp_X7_count_126 (K73 : Int32 → Int32 → Int32 → Int32 → Int32 → Int32 → MS → Prop) (post : Int32 → MS → Prop) (x1 : Int32) (x2 : Int32) (x3 : Int32) (x5 : Int32) (x6 : Int32) (k0 : Int32) (k1 : Int32) (S : MS) : Prop :=
 ∀ x4_1 : Int32, x4_1 = k1 + k0 → ∀ x6_2 : Int32, x6_2 = x6 + (1 : Int32) → K73 x1 x2 x3 x4_1 x5 x6_2 S
def wp_X7_count_125 (K126 : Int32 → Int32 → Int32 → Int32 → Int32 → Int32 → Int32 → MS → Prop) (post : Int32 → MS → Prop) (x1 : Int32) (x2 : Int32) (x3 : Int32) (x5 : Int32) (x6 : Int32) (k0 : Int32) (S : MS) : Prop :=
 K126 x1 x2 x3 x5 x6 (0 : Int32) k0 S
def wp_X7_count_135 (K25 : Int32 → Int32 → Int32 → Int32 → Int32 → MS → Prop) (post : Int32 → MS → Prop) (x1 : Int32) (x2 : Int32) (x3 : Int32) (x4 : Int32) (x5 : Int32) (S : MS) : Prop :=
 ∀ x5_1 : Int32, x5_1 = x5 + (1 : Int32) → K25 x1 x2 x3 x4 x5_1 S
def ws_X7_count_73 (rec_ : Int32 → Int32 → Int32 → Int32 → Int32 → Int32 → MS → Prop) (K25 : Int32 → Int32 → Int32 → Int32 → Int32 → MS → Prop) (post : Int32 → MS → Prop) (x1 : Int32) (x2 : Int32) (x3 : Int32) (x4 : Int32) (x5 : Int32) (x6 : Int32) (S : MS) : Prop :=
 (((150 : Int32) ≤ x6 →
 wp_X7_count_135 K25 post x1 x2 x3 x4 x5 S) ∧
 (¬ (150 : Int32) ≤ x6 →
 vp_in x5 150 ∧ (((gM_come S (x5).toNatClampNeg) = 0 →
 wp_X7_count_135 K25 post x1 x2 x3 x4 x5 S) ∧
 (¬ (gM_come S (x5).toNatClampNeg) = 0 →
 vp_in x6 150 ∧ (((gM_rowOf S (x6).toNatClampNeg) = (-1 : Int32) →
 wp_X7_count_125 (fun x1 x2 x3 x5 x6 k0 k1 S => wp_X7_count_126 rec_ post x1 x2 x3 x5 x6 k0 k1 S) post x1 x2 x3 x5 x6 x4 S) ∧
 (¬ (gM_rowOf S (x6).toNatClampNeg) = (-1 : Int32) →
 vp_in (((150 : Int32) * x6) + x5) 22500 ∧ (((gM_force S (((150 : Int32) * x6) + x5).toNatClampNeg) = 0 →
 wp_X7_count_125 (fun x1 x2 x3 x5 x6 k0 k1 S => wp_X7_count_126 rec_ post x1 x2 x3 x5 x6 k0 k1 S) post x1 x2 x3 x5 x6 x4 S) ∧
 (¬ (gM_force S (((150 : Int32) * x6) + x5).toNatClampNeg) = 0 →
 wp_X7_count_126 rec_ post x1 x2 x3 x5 x6 (1 : Int32) x4 S))))))))
def wp_X7_count_73 (K25 : Int32 → Int32 → Int32 → Int32 → Int32 → MS → Prop) (post : Int32 → MS → Prop) : Nat → Int32 → Int32 → Int32 → Int32 → Int32 → Int32 → MS → Prop
  | 0 => fun _ _ _ _ _ _ _ => False
  | n + 1 => ws_X7_count_73 (wp_X7_count_73 K25 post n) K25 post
def wp_X7_count_68 (K25 : Int32 → Int32 → Int32 → Int32 → Int32 → MS → Prop) (post : Int32 → MS → Prop) (x1 : Int32) (x3 : Int32) (x4 : Int32) (x5 : Int32) (k0 : Int32) (k1 : Int32) (S : MS) : Prop :=
 ∀ x2_1 : Int32, x2_1 = k1 + k0 → (∃ n_, wp_X7_count_73 K25 post n_ x1 x2_1 x3 x4 x5 (0 : Int32) S)
def wp_X7_count_49 (K25 : Int32 → Int32 → Int32 → Int32 → Int32 → MS → Prop) (post : Int32 → MS → Prop) (x1 : Int32) (x2 : Int32) (x4 : Int32) (x5 : Int32) (k0 : Int32) (k1 : Int32) (S : MS) : Prop :=
 ∀ x3_1 : Int32, x3_1 = k1 + k0 → vp_in x5 150 ∧ (((gM_rowOf S (x5).toNatClampNeg) = (-1 : Int32) →
 wp_X7_count_68 K25 post x1 x3_1 x4 x5 (0 : Int32) x2 S) ∧
 (¬ (gM_rowOf S (x5).toNatClampNeg) = (-1 : Int32) →
 wp_X7_count_68 K25 post x1 x3_1 x4 x5 (1 : Int32) x2 S))
def ws_X7_count_25 (rec_ : Int32 → Int32 → Int32 → Int32 → Int32 → MS → Prop) (post : Int32 → MS → Prop) (x1 : Int32) (x2 : Int32) (x3 : Int32) (x4 : Int32) (x5 : Int32) (S : MS) : Prop :=
 (((150 : Int32) ≤ x5 →
 ((¬ x1 = 0 →
 ((¬ x1 = (1 : Int32) →
 ((¬ x1 = (2 : Int32) →
 ((¬ x1 = (3 : Int32) →
 ((¬ x1 = (4 : Int32) →
 post (gM_clashing S) S) ∧
 (x1 = (4 : Int32) →
 post (gM_lacking S) S))) ∧
 (x1 = (3 : Int32) →
 post x4 S))) ∧
 (x1 = (2 : Int32) →
 post x3 S))) ∧
 (x1 = (1 : Int32) →
 post x2 S))) ∧
 (x1 = 0 →
 post (gM_nv S) S))) ∧
 (¬ (150 : Int32) ≤ x5 →
 vp_in x5 150 ∧ (((gM_come S (x5).toNatClampNeg) = 0 →
 wp_X7_count_49 rec_ post x1 x2 x4 x5 (0 : Int32) x3 S) ∧
 (¬ (gM_come S (x5).toNatClampNeg) = 0 →
 wp_X7_count_49 rec_ post x1 x2 x4 x5 (1 : Int32) x3 S))))
def wp_X7_count_25 (post : Int32 → MS → Prop) : Nat → Int32 → Int32 → Int32 → Int32 → Int32 → MS → Prop
  | 0 => fun _ _ _ _ _ _ => False
  | n + 1 => ws_X7_count_25 (wp_X7_count_25 post n) post
def wp_X7_count (S : MS) (x1 : Int32) (post : Int32 → MS → Prop) : Prop :=
 wp_X7_in S x1 (0 : Int32) (5 : Int32) (fun r3 S3 =>
 ((¬ r3 = 0 →
 wp_X7_workOut S3 (fun S12 =>
 (∃ n_, wp_X7_count_25 post n_ x1 (0 : Int32) (0 : Int32) (0 : Int32) (0 : Int32) S12))) ∧
 (r3 = 0 →
 post (-1 : Int32) S3)))
