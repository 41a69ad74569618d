def lay (sh : List Sh) (R : Rf) (a : Nat) (cs : List Sh) (rs : List (Nat × Nat × Nat)) : Prop := (∀ (k : Nat) (e : Sh), cs[k]? = some e → sh[a + k]? = some e) ∧ ∀ q ∈ rs, R (a + q.1) q.2.1 = some (a + q.2.2)
def SH0 : List Sh := [.inl 11, .inr (1, 900), .inl 7, .inr (0, 10), .inr (0, 10), .inr (0, 10), .inr (0, 6), .inr (0, 8), .inr (0, 8), .inl 3, .inr (0, 900), .inr (0, 3), .inr (0, 3), .inl 5, .inl 7, .inr (0, 10), .inr (0, 10), .inr (0, 10), .inr (0, 6), .inr (0, 8), .inr (0, 8), .inl 3, .inr (0, 900), .inr (0, 3), .inr (0, 3), .inl 9, .inr (0, 901), .inr (0, 901), .inl 6, .inr (0, 288), .inr (0, 48), .inr (0, 432), .inr (0, 5), .inr (0, 64), .inl 8, .inr (0, 8), .inr (0, 8), .inr (0, 8), .inr (0, 8), .inr (0, 80), .inr (0, 6), .inl 8, .inr (0, 8), .inr (0, 8), .inr (0, 8), .inr (0, 8), .inr (0, 80), .inr (0, 6), .inl 1, .inr (4, 10), .inl 8, .inr (0, 8), .inr (0, 8), .inr (0, 8), .inr (0, 8), .inr (0, 80), .inr (0, 6), .inl 8, .inr (0, 8), .inr (0, 8), .inr (0, 8), .inr (0, 8), .inr (0, 80), .inr (0, 6), .inl 8, .inr (0, 8), .inr (0, 8), .inr (0, 8), .inr (0, 8), .inr (0, 80), .inr (0, 6), .inl 8, .inr (0, 8), .inr (0, 8), .inr (0, 8), .inr (0, 8), .inr (0, 80), .inr (0, 6), .inl 8, .inr (0, 8), .inr (0, 8), .inr (0, 8), .inr (0, 8), .inr (0, 80), .inr (0, 6), .inl 8, .inr (0, 8), .inr (0, 8), .inr (0, 8), .inr (0, 8), .inr (0, 80), .inr (0, 6), .inl 8, .inr (0, 8), .inr (0, 8), .inr (0, 8), .inr (0, 8), .inr (0, 80), .inr (0, 6), .inl 8, .inr (0, 8), .inr (0, 8), .inr (0, 8), .inr (0, 8), .inr (0, 80), .inr (0, 6), .inl 8, .inr (0, 8), .inr (0, 8), .inr (0, 8), .inr (0, 8), .inr (0, 80), .inr (0, 6), .inl 8, .inr (0, 8), .inr (0, 8), .inr (0, 8), .inr (0, 8), .inr (0, 80), .inr (0, 6), .inl 0, .inr (0, 720), .inr (0, 432), .inr (0, 6), .inl 4, .inr (0, 64), .inr (0, 8), .inr (0, 8), .inr (5, 4), .inl 10, .inr (3, 40), .inl 10, .inr (3, 40), .inl 10, .inr (3, 40), .inl 10, .inr (3, 40), .inr (6, 2), .inr (0, 6), .inl 12, .inr (0, 6726), .inr (2, 2), .inr (0, 900), .inr (0, 2242), .inr (0, 900), .inr (0, 9), .inr (0, 116), .inr (0, 8), .inr (0, 6), .inr (0, 8), .inr (0, 8), .inr (0, 64), .inr (0, 4), .inr (0, 4), .inr (3, 160)]
def RS0 : List (Nat × Nat × Nat) := [(2, 8, 3), (2, 9, 4), (2, 10, 5), (2, 11, 6), (2, 12, 7), (2, 13, 8), (2, 14, 9), (9, 0, 10), (9, 2, 11), (9, 3, 12), (14, 8, 15), (14, 9, 16), (14, 10, 17), (14, 11, 18), (14, 12, 19), (14, 13, 20), (14, 14, 21), (21, 0, 22), (21, 2, 23), (21, 3, 24), (25, 0, 26), (25, 1, 27), (28, 1, 29), (28, 2, 30), (28, 3, 31), (28, 4, 32), (28, 5, 33), (28, 0, 2), (13, 0, 14), (13, 3, 25), (34, 4, 35), (34, 5, 36), (34, 6, 37), (34, 7, 38), (34, 8, 39), (34, 9, 40), (41, 4, 42), (41, 5, 43), (41, 6, 44), (41, 7, 45), (41, 8, 46), (41, 9, 47), (48, 0, 49), (50, 4, 51), (50, 5, 52), (50, 6, 53), (50, 7, 54), (50, 8, 55), (50, 9, 56), (49, 0, 50), (57, 4, 58), (57, 5, 59), (57, 6, 60), (57, 7, 61), (57, 8, 62), (57, 9, 63), (49, 1, 57), (64, 4, 65), (64, 5, 66), (64, 6, 67), (64, 7, 68), (64, 8, 69), (64, 9, 70), (49, 2, 64), (71, 4, 72), (71, 5, 73), (71, 6, 74), (71, 7, 75), (71, 8, 76), (71, 9, 77), (49, 3, 71), (78, 4, 79), (78, 5, 80), (78, 6, 81), (78, 7, 82), (78, 8, 83), (78, 9, 84), (49, 4, 78), (85, 4, 86), (85, 5, 87), (85, 6, 88), (85, 7, 89), (85, 8, 90), (85, 9, 91), (49, 5, 85), (92, 4, 93), (92, 5, 94), (92, 6, 95), (92, 7, 96), (92, 8, 97), (92, 9, 98), (49, 6, 92), (99, 4, 100), (99, 5, 101), (99, 6, 102), (99, 7, 103), (99, 8, 104), (99, 9, 105), (49, 7, 99), (106, 4, 107), (106, 5, 108), (106, 6, 109), (106, 7, 110), (106, 8, 111), (106, 9, 112), (49, 8, 106), (113, 4, 114), (113, 5, 115), (113, 6, 116), (113, 7, 117), (113, 8, 118), (113, 9, 119), (49, 9, 113), (120, 3, 121), (120, 4, 122), (120, 5, 123), (120, 0, 2), (120, 1, 28), (120, 2, 34), (124, 0, 125), (124, 1, 126), (124, 2, 127), (129, 0, 130), (128, 0, 129), (131, 0, 132), (128, 1, 131), (133, 0, 134), (128, 2, 133), (135, 0, 136), (128, 3, 135), (0, 0, 1), (0, 4, 2), (0, 5, 13), (0, 6, 28), (0, 7, 34), (0, 8, 41), (0, 9, 48), (0, 10, 120), (0, 11, 124), (0, 12, 128), (0, 13, 137), (0, 14, 138), (139, 1, 140), (139, 2, 141), (139, 3, 142), (139, 4, 143), (139, 16, 144), (139, 17, 145), (139, 18, 146), (139, 21, 147), (139, 22, 148), (139, 23, 149), (139, 24, 150), (139, 25, 151), (139, 27, 152), (139, 28, 153), (139, 29, 154)]
/-- the cells of the class and of the reference, as the two constructors lay them -/
def LY (sh : List Sh) (R : Rf) : Prop := (∀ (k : Nat) (e : Sh), SH0[k]? = some e → sh[k]? = some e) ∧ ∀ q ∈ RS0, R q.1 q.2.1 = some q.2.2
def c_isSea : List Sh := [.inl 7, .inr (0, 10), .inr (0, 10), .inr (0, 10), .inr (0, 6), .inr (0, 8), .inr (0, 8), .inl 3, .inr (0, 900), .inr (0, 3), .inr (0, 3)]
def q_isSea : List (Nat × Nat × Nat) := [(0, 8, 1), (0, 9, 2), (0, 10, 3), (0, 11, 4), (0, 12, 5), (0, 13, 6), (0, 14, 7), (7, 0, 8), (7, 2, 9), (7, 3, 10)]
def isSea (sh : List Sh) (R : Rf) (a : Nat) : Prop := lay sh R a c_isSea q_isSea
theorem isSea_0 {sh : List Sh} {R : Rf} {a : Nat} (h : isSea sh R a) : sh[a]? = some (.inl 7) := h.1 0 _ rfl
theorem isSea_1 {sh : List Sh} {R : Rf} {a : Nat} (h : isSea sh R a) : sh[a + 1]? = some (.inr (0, 10)) := h.1 1 _ rfl
theorem isSea_2 {sh : List Sh} {R : Rf} {a : Nat} (h : isSea sh R a) : sh[a + 2]? = some (.inr (0, 10)) := h.1 2 _ rfl
theorem isSea_3 {sh : List Sh} {R : Rf} {a : Nat} (h : isSea sh R a) : sh[a + 3]? = some (.inr (0, 10)) := h.1 3 _ rfl
theorem isSea_4 {sh : List Sh} {R : Rf} {a : Nat} (h : isSea sh R a) : sh[a + 4]? = some (.inr (0, 6)) := h.1 4 _ rfl
theorem isSea_5 {sh : List Sh} {R : Rf} {a : Nat} (h : isSea sh R a) : sh[a + 5]? = some (.inr (0, 8)) := h.1 5 _ rfl
theorem isSea_6 {sh : List Sh} {R : Rf} {a : Nat} (h : isSea sh R a) : sh[a + 6]? = some (.inr (0, 8)) := h.1 6 _ rfl
theorem isSea_7 {sh : List Sh} {R : Rf} {a : Nat} (h : isSea sh R a) : sh[a + 7]? = some (.inl 3) := h.1 7 _ rfl
theorem isSea_8 {sh : List Sh} {R : Rf} {a : Nat} (h : isSea sh R a) : sh[a + 8]? = some (.inr (0, 900)) := h.1 8 _ rfl
theorem isSea_9 {sh : List Sh} {R : Rf} {a : Nat} (h : isSea sh R a) : sh[a + 9]? = some (.inr (0, 3)) := h.1 9 _ rfl
theorem isSea_10 {sh : List Sh} {R : Rf} {a : Nat} (h : isSea sh R a) : sh[a + 10]? = some (.inr (0, 3)) := h.1 10 _ rfl
theorem isSea_r8 {sh : List Sh} {R : Rf} {a : Nat} (h : isSea sh R a) : R a 8 = some (a + 1) := h.2 (0, 8, 1) (by decide)
theorem isSea_r9 {sh : List Sh} {R : Rf} {a : Nat} (h : isSea sh R a) : R a 9 = some (a + 2) := h.2 (0, 9, 2) (by decide)
theorem isSea_r10 {sh : List Sh} {R : Rf} {a : Nat} (h : isSea sh R a) : R a 10 = some (a + 3) := h.2 (0, 10, 3) (by decide)
theorem isSea_r11 {sh : List Sh} {R : Rf} {a : Nat} (h : isSea sh R a) : R a 11 = some (a + 4) := h.2 (0, 11, 4) (by decide)
theorem isSea_r12 {sh : List Sh} {R : Rf} {a : Nat} (h : isSea sh R a) : R a 12 = some (a + 5) := h.2 (0, 12, 5) (by decide)
theorem isSea_r13 {sh : List Sh} {R : Rf} {a : Nat} (h : isSea sh R a) : R a 13 = some (a + 6) := h.2 (0, 13, 6) (by decide)
theorem isSea_r14 {sh : List Sh} {R : Rf} {a : Nat} (h : isSea sh R a) : R a 14 = some (a + 7) := h.2 (0, 14, 7) (by decide)
def c_isLaw : List Sh := [.inl 3, .inr (0, 900), .inr (0, 3), .inr (0, 3)]
def q_isLaw : List (Nat × Nat × Nat) := [(0, 0, 1), (0, 2, 2), (0, 3, 3)]
def isLaw (sh : List Sh) (R : Rf) (a : Nat) : Prop := lay sh R a c_isLaw q_isLaw
theorem isLaw_0 {sh : List Sh} {R : Rf} {a : Nat} (h : isLaw sh R a) : sh[a]? = some (.inl 3) := h.1 0 _ rfl
theorem isLaw_1 {sh : List Sh} {R : Rf} {a : Nat} (h : isLaw sh R a) : sh[a + 1]? = some (.inr (0, 900)) := h.1 1 _ rfl
theorem isLaw_2 {sh : List Sh} {R : Rf} {a : Nat} (h : isLaw sh R a) : sh[a + 2]? = some (.inr (0, 3)) := h.1 2 _ rfl
theorem isLaw_3 {sh : List Sh} {R : Rf} {a : Nat} (h : isLaw sh R a) : sh[a + 3]? = some (.inr (0, 3)) := h.1 3 _ rfl
theorem isLaw_r0 {sh : List Sh} {R : Rf} {a : Nat} (h : isLaw sh R a) : R a 0 = some (a + 1) := h.2 (0, 0, 1) (by decide)
theorem isLaw_r2 {sh : List Sh} {R : Rf} {a : Nat} (h : isLaw sh R a) : R a 2 = some (a + 2) := h.2 (0, 2, 2) (by decide)
theorem isLaw_r3 {sh : List Sh} {R : Rf} {a : Nat} (h : isLaw sh R a) : R a 3 = some (a + 3) := h.2 (0, 3, 3) (by decide)
def c_isSt : List Sh := [.inl 8, .inr (0, 8), .inr (0, 8), .inr (0, 8), .inr (0, 8), .inr (0, 80), .inr (0, 6)]
def q_isSt : List (Nat × Nat × Nat) := [(0, 4, 1), (0, 5, 2), (0, 6, 3), (0, 7, 4), (0, 8, 5), (0, 9, 6)]
def isSt (sh : List Sh) (R : Rf) (a : Nat) : Prop := lay sh R a c_isSt q_isSt
theorem isSt_0 {sh : List Sh} {R : Rf} {a : Nat} (h : isSt sh R a) : sh[a]? = some (.inl 8) := h.1 0 _ rfl
theorem isSt_1 {sh : List Sh} {R : Rf} {a : Nat} (h : isSt sh R a) : sh[a + 1]? = some (.inr (0, 8)) := h.1 1 _ rfl
theorem isSt_2 {sh : List Sh} {R : Rf} {a : Nat} (h : isSt sh R a) : sh[a + 2]? = some (.inr (0, 8)) := h.1 2 _ rfl
theorem isSt_3 {sh : List Sh} {R : Rf} {a : Nat} (h : isSt sh R a) : sh[a + 3]? = some (.inr (0, 8)) := h.1 3 _ rfl
theorem isSt_4 {sh : List Sh} {R : Rf} {a : Nat} (h : isSt sh R a) : sh[a + 4]? = some (.inr (0, 8)) := h.1 4 _ rfl
theorem isSt_5 {sh : List Sh} {R : Rf} {a : Nat} (h : isSt sh R a) : sh[a + 5]? = some (.inr (0, 80)) := h.1 5 _ rfl
theorem isSt_6 {sh : List Sh} {R : Rf} {a : Nat} (h : isSt sh R a) : sh[a + 6]? = some (.inr (0, 6)) := h.1 6 _ rfl
theorem isSt_r4 {sh : List Sh} {R : Rf} {a : Nat} (h : isSt sh R a) : R a 4 = some (a + 1) := h.2 (0, 4, 1) (by decide)
theorem isSt_r5 {sh : List Sh} {R : Rf} {a : Nat} (h : isSt sh R a) : R a 5 = some (a + 2) := h.2 (0, 5, 2) (by decide)
theorem isSt_r6 {sh : List Sh} {R : Rf} {a : Nat} (h : isSt sh R a) : R a 6 = some (a + 3) := h.2 (0, 6, 3) (by decide)
theorem isSt_r7 {sh : List Sh} {R : Rf} {a : Nat} (h : isSt sh R a) : R a 7 = some (a + 4) := h.2 (0, 7, 4) (by decide)
theorem isSt_r8 {sh : List Sh} {R : Rf} {a : Nat} (h : isSt sh R a) : R a 8 = some (a + 5) := h.2 (0, 8, 5) (by decide)
theorem isSt_r9 {sh : List Sh} {R : Rf} {a : Nat} (h : isSt sh R a) : R a 9 = some (a + 6) := h.2 (0, 9, 6) (by decide)
def c_isTr : List Sh := [.inl 10, .inr (3, 40)]
def q_isTr : List (Nat × Nat × Nat) := [(0, 0, 1)]
def isTr (sh : List Sh) (R : Rf) (a : Nat) : Prop := lay sh R a c_isTr q_isTr
theorem isTr_0 {sh : List Sh} {R : Rf} {a : Nat} (h : isTr sh R a) : sh[a]? = some (.inl 10) := h.1 0 _ rfl
theorem isTr_1 {sh : List Sh} {R : Rf} {a : Nat} (h : isTr sh R a) : sh[a + 1]? = some (.inr (3, 40)) := h.1 1 _ rfl
theorem isTr_r0 {sh : List Sh} {R : Rf} {a : Nat} (h : isTr sh R a) : R a 0 = some (a + 1) := h.2 (0, 0, 1) (by decide)
def c_isIm : List Sh := [.inl 2, .inl 7, .inr (0, 10), .inr (0, 10), .inr (0, 10), .inr (0, 6), .inr (0, 8), .inr (0, 8), .inl 3, .inr (0, 900), .inr (0, 3), .inr (0, 3), .inl 8, .inr (0, 8), .inr (0, 8), .inr (0, 8), .inr (0, 8), .inr (0, 80), .inr (0, 6)]
def q_isIm : List (Nat × Nat × Nat) := [(0, 0, 1), (0, 1, 12), (1, 8, 2), (1, 9, 3), (1, 10, 4), (1, 11, 5), (1, 12, 6), (1, 13, 7), (1, 14, 8), (8, 0, 9), (8, 2, 10), (8, 3, 11), (12, 4, 13), (12, 5, 14), (12, 6, 15), (12, 7, 16), (12, 8, 17), (12, 9, 18)]
def isIm (sh : List Sh) (R : Rf) (a : Nat) : Prop := lay sh R a c_isIm q_isIm
theorem isIm_0 {sh : List Sh} {R : Rf} {a : Nat} (h : isIm sh R a) : sh[a]? = some (.inl 2) := h.1 0 _ rfl
theorem isIm_1 {sh : List Sh} {R : Rf} {a : Nat} (h : isIm sh R a) : sh[a + 1]? = some (.inl 7) := h.1 1 _ rfl
theorem isIm_2 {sh : List Sh} {R : Rf} {a : Nat} (h : isIm sh R a) : sh[a + 2]? = some (.inr (0, 10)) := h.1 2 _ rfl
theorem isIm_3 {sh : List Sh} {R : Rf} {a : Nat} (h : isIm sh R a) : sh[a + 3]? = some (.inr (0, 10)) := h.1 3 _ rfl
theorem isIm_4 {sh : List Sh} {R : Rf} {a : Nat} (h : isIm sh R a) : sh[a + 4]? = some (.inr (0, 10)) := h.1 4 _ rfl
theorem isIm_5 {sh : List Sh} {R : Rf} {a : Nat} (h : isIm sh R a) : sh[a + 5]? = some (.inr (0, 6)) := h.1 5 _ rfl
theorem isIm_6 {sh : List Sh} {R : Rf} {a : Nat} (h : isIm sh R a) : sh[a + 6]? = some (.inr (0, 8)) := h.1 6 _ rfl
theorem isIm_7 {sh : List Sh} {R : Rf} {a : Nat} (h : isIm sh R a) : sh[a + 7]? = some (.inr (0, 8)) := h.1 7 _ rfl
theorem isIm_8 {sh : List Sh} {R : Rf} {a : Nat} (h : isIm sh R a) : sh[a + 8]? = some (.inl 3) := h.1 8 _ rfl
theorem isIm_9 {sh : List Sh} {R : Rf} {a : Nat} (h : isIm sh R a) : sh[a + 9]? = some (.inr (0, 900)) := h.1 9 _ rfl
theorem isIm_10 {sh : List Sh} {R : Rf} {a : Nat} (h : isIm sh R a) : sh[a + 10]? = some (.inr (0, 3)) := h.1 10 _ rfl
theorem isIm_11 {sh : List Sh} {R : Rf} {a : Nat} (h : isIm sh R a) : sh[a + 11]? = some (.inr (0, 3)) := h.1 11 _ rfl
theorem isIm_12 {sh : List Sh} {R : Rf} {a : Nat} (h : isIm sh R a) : sh[a + 12]? = some (.inl 8) := h.1 12 _ rfl
theorem isIm_13 {sh : List Sh} {R : Rf} {a : Nat} (h : isIm sh R a) : sh[a + 13]? = some (.inr (0, 8)) := h.1 13 _ rfl
theorem isIm_14 {sh : List Sh} {R : Rf} {a : Nat} (h : isIm sh R a) : sh[a + 14]? = some (.inr (0, 8)) := h.1 14 _ rfl
theorem isIm_15 {sh : List Sh} {R : Rf} {a : Nat} (h : isIm sh R a) : sh[a + 15]? = some (.inr (0, 8)) := h.1 15 _ rfl
theorem isIm_16 {sh : List Sh} {R : Rf} {a : Nat} (h : isIm sh R a) : sh[a + 16]? = some (.inr (0, 8)) := h.1 16 _ rfl
theorem isIm_17 {sh : List Sh} {R : Rf} {a : Nat} (h : isIm sh R a) : sh[a + 17]? = some (.inr (0, 80)) := h.1 17 _ rfl
theorem isIm_18 {sh : List Sh} {R : Rf} {a : Nat} (h : isIm sh R a) : sh[a + 18]? = some (.inr (0, 6)) := h.1 18 _ rfl
theorem isIm_r0 {sh : List Sh} {R : Rf} {a : Nat} (h : isIm sh R a) : R a 0 = some (a + 1) := h.2 (0, 0, 1) (by decide)
theorem isIm_r1 {sh : List Sh} {R : Rf} {a : Nat} (h : isIm sh R a) : R a 1 = some (a + 12) := h.2 (0, 1, 12) (by decide)
theorem isSea_law {sh : List Sh} {R : Rf} {a : Nat} (h : isSea sh R a) : isLaw sh R (a + 7) := by
  refine ⟨fun k e hk => ?_, fun q hq => ?_⟩
  · rw [Nat.add_assoc]; refine h.1 (7 + k) e ?_
    match k, hk with
    | 0, hk => exact hk
    | 1, hk => exact hk
    | 2, hk => exact hk
    | 3, hk => exact hk
    | k + 4, hk => cases hk
  · rw [Nat.add_assoc, Nat.add_assoc]; refine h.2 (7 + q.1, q.2.1, 7 + q.2.2) ?_
    revert hq; revert q; decide
theorem isIm_sea {sh : List Sh} {R : Rf} {a : Nat} (h : isIm sh R a) : isSea sh R (a + 1) := by
  refine ⟨fun k e hk => ?_, fun q hq => ?_⟩
  · rw [Nat.add_assoc]; refine h.1 (1 + k) e ?_
    match k, hk with
    | 0, hk => exact hk
    | 1, hk => exact hk
    | 2, hk => exact hk
    | 3, hk => exact hk
    | 4, hk => exact hk
    | 5, hk => exact hk
    | 6, hk => exact hk
    | 7, hk => exact hk
    | 8, hk => exact hk
    | 9, hk => exact hk
    | 10, hk => exact hk
    | k + 11, hk => cases hk
  · rw [Nat.add_assoc, Nat.add_assoc]; refine h.2 (1 + q.1, q.2.1, 1 + q.2.2) ?_
    revert hq; revert q; decide
theorem isIm_st {sh : List Sh} {R : Rf} {a : Nat} (h : isIm sh R a) : isSt sh R (a + 12) := by
  refine ⟨fun k e hk => ?_, fun q hq => ?_⟩
  · rw [Nat.add_assoc]; refine h.1 (12 + k) e ?_
    match k, hk with
    | 0, hk => exact hk
    | 1, hk => exact hk
    | 2, hk => exact hk
    | 3, hk => exact hk
    | 4, hk => exact hk
    | 5, hk => exact hk
    | 6, hk => exact hk
    | k + 7, hk => cases hk
  · rw [Nat.add_assoc, Nat.add_assoc]; refine h.2 (12 + q.1, q.2.1, 12 + q.2.2) ?_
    revert hq; revert q; decide
theorem ly0 {sh : List Sh} {R : Rf} (h : LY sh R) : sh[0]? = some (.inl 11) := h.1 0 _ rfl
theorem ly1 {sh : List Sh} {R : Rf} (h : LY sh R) : sh[1]? = some (.inr (1, 900)) := h.1 1 _ rfl
theorem ly2 {sh : List Sh} {R : Rf} (h : LY sh R) : sh[2]? = some (.inl 7) := h.1 2 _ rfl
theorem ly3 {sh : List Sh} {R : Rf} (h : LY sh R) : sh[3]? = some (.inr (0, 10)) := h.1 3 _ rfl
theorem ly4 {sh : List Sh} {R : Rf} (h : LY sh R) : sh[4]? = some (.inr (0, 10)) := h.1 4 _ rfl
theorem ly5 {sh : List Sh} {R : Rf} (h : LY sh R) : sh[5]? = some (.inr (0, 10)) := h.1 5 _ rfl
theorem ly6 {sh : List Sh} {R : Rf} (h : LY sh R) : sh[6]? = some (.inr (0, 6)) := h.1 6 _ rfl
theorem ly7 {sh : List Sh} {R : Rf} (h : LY sh R) : sh[7]? = some (.inr (0, 8)) := h.1 7 _ rfl
theorem ly8 {sh : List Sh} {R : Rf} (h : LY sh R) : sh[8]? = some (.inr (0, 8)) := h.1 8 _ rfl
theorem ly9 {sh : List Sh} {R : Rf} (h : LY sh R) : sh[9]? = some (.inl 3) := h.1 9 _ rfl
theorem ly10 {sh : List Sh} {R : Rf} (h : LY sh R) : sh[10]? = some (.inr (0, 900)) := h.1 10 _ rfl
theorem ly11 {sh : List Sh} {R : Rf} (h : LY sh R) : sh[11]? = some (.inr (0, 3)) := h.1 11 _ rfl
theorem ly12 {sh : List Sh} {R : Rf} (h : LY sh R) : sh[12]? = some (.inr (0, 3)) := h.1 12 _ rfl
theorem ly13 {sh : List Sh} {R : Rf} (h : LY sh R) : sh[13]? = some (.inl 5) := h.1 13 _ rfl
theorem ly14 {sh : List Sh} {R : Rf} (h : LY sh R) : sh[14]? = some (.inl 7) := h.1 14 _ rfl
theorem ly15 {sh : List Sh} {R : Rf} (h : LY sh R) : sh[15]? = some (.inr (0, 10)) := h.1 15 _ rfl
theorem ly16 {sh : List Sh} {R : Rf} (h : LY sh R) : sh[16]? = some (.inr (0, 10)) := h.1 16 _ rfl
theorem ly17 {sh : List Sh} {R : Rf} (h : LY sh R) : sh[17]? = some (.inr (0, 10)) := h.1 17 _ rfl
theorem ly18 {sh : List Sh} {R : Rf} (h : LY sh R) : sh[18]? = some (.inr (0, 6)) := h.1 18 _ rfl
theorem ly19 {sh : List Sh} {R : Rf} (h : LY sh R) : sh[19]? = some (.inr (0, 8)) := h.1 19 _ rfl
theorem ly20 {sh : List Sh} {R : Rf} (h : LY sh R) : sh[20]? = some (.inr (0, 8)) := h.1 20 _ rfl
theorem ly21 {sh : List Sh} {R : Rf} (h : LY sh R) : sh[21]? = some (.inl 3) := h.1 21 _ rfl
theorem ly22 {sh : List Sh} {R : Rf} (h : LY sh R) : sh[22]? = some (.inr (0, 900)) := h.1 22 _ rfl
theorem ly23 {sh : List Sh} {R : Rf} (h : LY sh R) : sh[23]? = some (.inr (0, 3)) := h.1 23 _ rfl
theorem ly24 {sh : List Sh} {R : Rf} (h : LY sh R) : sh[24]? = some (.inr (0, 3)) := h.1 24 _ rfl
theorem ly25 {sh : List Sh} {R : Rf} (h : LY sh R) : sh[25]? = some (.inl 9) := h.1 25 _ rfl
theorem ly26 {sh : List Sh} {R : Rf} (h : LY sh R) : sh[26]? = some (.inr (0, 901)) := h.1 26 _ rfl
theorem ly27 {sh : List Sh} {R : Rf} (h : LY sh R) : sh[27]? = some (.inr (0, 901)) := h.1 27 _ rfl
theorem ly28 {sh : List Sh} {R : Rf} (h : LY sh R) : sh[28]? = some (.inl 6) := h.1 28 _ rfl
theorem ly29 {sh : List Sh} {R : Rf} (h : LY sh R) : sh[29]? = some (.inr (0, 288)) := h.1 29 _ rfl
theorem ly30 {sh : List Sh} {R : Rf} (h : LY sh R) : sh[30]? = some (.inr (0, 48)) := h.1 30 _ rfl
theorem ly31 {sh : List Sh} {R : Rf} (h : LY sh R) : sh[31]? = some (.inr (0, 432)) := h.1 31 _ rfl
theorem ly32 {sh : List Sh} {R : Rf} (h : LY sh R) : sh[32]? = some (.inr (0, 5)) := h.1 32 _ rfl
theorem ly33 {sh : List Sh} {R : Rf} (h : LY sh R) : sh[33]? = some (.inr (0, 64)) := h.1 33 _ rfl
theorem ly34 {sh : List Sh} {R : Rf} (h : LY sh R) : sh[34]? = some (.inl 8) := h.1 34 _ rfl
theorem ly35 {sh : List Sh} {R : Rf} (h : LY sh R) : sh[35]? = some (.inr (0, 8)) := h.1 35 _ rfl
theorem ly36 {sh : List Sh} {R : Rf} (h : LY sh R) : sh[36]? = some (.inr (0, 8)) := h.1 36 _ rfl
theorem ly37 {sh : List Sh} {R : Rf} (h : LY sh R) : sh[37]? = some (.inr (0, 8)) := h.1 37 _ rfl
theorem ly38 {sh : List Sh} {R : Rf} (h : LY sh R) : sh[38]? = some (.inr (0, 8)) := h.1 38 _ rfl
theorem ly39 {sh : List Sh} {R : Rf} (h : LY sh R) : sh[39]? = some (.inr (0, 80)) := h.1 39 _ rfl
theorem ly40 {sh : List Sh} {R : Rf} (h : LY sh R) : sh[40]? = some (.inr (0, 6)) := h.1 40 _ rfl
theorem ly41 {sh : List Sh} {R : Rf} (h : LY sh R) : sh[41]? = some (.inl 8) := h.1 41 _ rfl
theorem ly42 {sh : List Sh} {R : Rf} (h : LY sh R) : sh[42]? = some (.inr (0, 8)) := h.1 42 _ rfl
theorem ly43 {sh : List Sh} {R : Rf} (h : LY sh R) : sh[43]? = some (.inr (0, 8)) := h.1 43 _ rfl
theorem ly44 {sh : List Sh} {R : Rf} (h : LY sh R) : sh[44]? = some (.inr (0, 8)) := h.1 44 _ rfl
theorem ly45 {sh : List Sh} {R : Rf} (h : LY sh R) : sh[45]? = some (.inr (0, 8)) := h.1 45 _ rfl
theorem ly46 {sh : List Sh} {R : Rf} (h : LY sh R) : sh[46]? = some (.inr (0, 80)) := h.1 46 _ rfl
theorem ly47 {sh : List Sh} {R : Rf} (h : LY sh R) : sh[47]? = some (.inr (0, 6)) := h.1 47 _ rfl
theorem ly48 {sh : List Sh} {R : Rf} (h : LY sh R) : sh[48]? = some (.inl 1) := h.1 48 _ rfl
theorem ly49 {sh : List Sh} {R : Rf} (h : LY sh R) : sh[49]? = some (.inr (4, 10)) := h.1 49 _ rfl
theorem ly50 {sh : List Sh} {R : Rf} (h : LY sh R) : sh[50]? = some (.inl 8) := h.1 50 _ rfl
theorem ly51 {sh : List Sh} {R : Rf} (h : LY sh R) : sh[51]? = some (.inr (0, 8)) := h.1 51 _ rfl
theorem ly52 {sh : List Sh} {R : Rf} (h : LY sh R) : sh[52]? = some (.inr (0, 8)) := h.1 52 _ rfl
theorem ly53 {sh : List Sh} {R : Rf} (h : LY sh R) : sh[53]? = some (.inr (0, 8)) := h.1 53 _ rfl
theorem ly54 {sh : List Sh} {R : Rf} (h : LY sh R) : sh[54]? = some (.inr (0, 8)) := h.1 54 _ rfl
theorem ly55 {sh : List Sh} {R : Rf} (h : LY sh R) : sh[55]? = some (.inr (0, 80)) := h.1 55 _ rfl
theorem ly56 {sh : List Sh} {R : Rf} (h : LY sh R) : sh[56]? = some (.inr (0, 6)) := h.1 56 _ rfl
theorem ly57 {sh : List Sh} {R : Rf} (h : LY sh R) : sh[57]? = some (.inl 8) := h.1 57 _ rfl
theorem ly58 {sh : List Sh} {R : Rf} (h : LY sh R) : sh[58]? = some (.inr (0, 8)) := h.1 58 _ rfl
theorem ly59 {sh : List Sh} {R : Rf} (h : LY sh R) : sh[59]? = some (.inr (0, 8)) := h.1 59 _ rfl
theorem ly60 {sh : List Sh} {R : Rf} (h : LY sh R) : sh[60]? = some (.inr (0, 8)) := h.1 60 _ rfl
theorem ly61 {sh : List Sh} {R : Rf} (h : LY sh R) : sh[61]? = some (.inr (0, 8)) := h.1 61 _ rfl
theorem ly62 {sh : List Sh} {R : Rf} (h : LY sh R) : sh[62]? = some (.inr (0, 80)) := h.1 62 _ rfl
theorem ly63 {sh : List Sh} {R : Rf} (h : LY sh R) : sh[63]? = some (.inr (0, 6)) := h.1 63 _ rfl
theorem ly64 {sh : List Sh} {R : Rf} (h : LY sh R) : sh[64]? = some (.inl 8) := h.1 64 _ rfl
theorem ly65 {sh : List Sh} {R : Rf} (h : LY sh R) : sh[65]? = some (.inr (0, 8)) := h.1 65 _ rfl
theorem ly66 {sh : List Sh} {R : Rf} (h : LY sh R) : sh[66]? = some (.inr (0, 8)) := h.1 66 _ rfl
theorem ly67 {sh : List Sh} {R : Rf} (h : LY sh R) : sh[67]? = some (.inr (0, 8)) := h.1 67 _ rfl
theorem ly68 {sh : List Sh} {R : Rf} (h : LY sh R) : sh[68]? = some (.inr (0, 8)) := h.1 68 _ rfl
theorem ly69 {sh : List Sh} {R : Rf} (h : LY sh R) : sh[69]? = some (.inr (0, 80)) := h.1 69 _ rfl
theorem ly70 {sh : List Sh} {R : Rf} (h : LY sh R) : sh[70]? = some (.inr (0, 6)) := h.1 70 _ rfl
theorem ly71 {sh : List Sh} {R : Rf} (h : LY sh R) : sh[71]? = some (.inl 8) := h.1 71 _ rfl
theorem ly72 {sh : List Sh} {R : Rf} (h : LY sh R) : sh[72]? = some (.inr (0, 8)) := h.1 72 _ rfl
theorem ly73 {sh : List Sh} {R : Rf} (h : LY sh R) : sh[73]? = some (.inr (0, 8)) := h.1 73 _ rfl
theorem ly74 {sh : List Sh} {R : Rf} (h : LY sh R) : sh[74]? = some (.inr (0, 8)) := h.1 74 _ rfl
theorem ly75 {sh : List Sh} {R : Rf} (h : LY sh R) : sh[75]? = some (.inr (0, 8)) := h.1 75 _ rfl
theorem ly76 {sh : List Sh} {R : Rf} (h : LY sh R) : sh[76]? = some (.inr (0, 80)) := h.1 76 _ rfl
theorem ly77 {sh : List Sh} {R : Rf} (h : LY sh R) : sh[77]? = some (.inr (0, 6)) := h.1 77 _ rfl
theorem ly78 {sh : List Sh} {R : Rf} (h : LY sh R) : sh[78]? = some (.inl 8) := h.1 78 _ rfl
theorem ly79 {sh : List Sh} {R : Rf} (h : LY sh R) : sh[79]? = some (.inr (0, 8)) := h.1 79 _ rfl
theorem ly80 {sh : List Sh} {R : Rf} (h : LY sh R) : sh[80]? = some (.inr (0, 8)) := h.1 80 _ rfl
theorem ly81 {sh : List Sh} {R : Rf} (h : LY sh R) : sh[81]? = some (.inr (0, 8)) := h.1 81 _ rfl
theorem ly82 {sh : List Sh} {R : Rf} (h : LY sh R) : sh[82]? = some (.inr (0, 8)) := h.1 82 _ rfl
theorem ly83 {sh : List Sh} {R : Rf} (h : LY sh R) : sh[83]? = some (.inr (0, 80)) := h.1 83 _ rfl
theorem ly84 {sh : List Sh} {R : Rf} (h : LY sh R) : sh[84]? = some (.inr (0, 6)) := h.1 84 _ rfl
theorem ly85 {sh : List Sh} {R : Rf} (h : LY sh R) : sh[85]? = some (.inl 8) := h.1 85 _ rfl
theorem ly86 {sh : List Sh} {R : Rf} (h : LY sh R) : sh[86]? = some (.inr (0, 8)) := h.1 86 _ rfl
theorem ly87 {sh : List Sh} {R : Rf} (h : LY sh R) : sh[87]? = some (.inr (0, 8)) := h.1 87 _ rfl
theorem ly88 {sh : List Sh} {R : Rf} (h : LY sh R) : sh[88]? = some (.inr (0, 8)) := h.1 88 _ rfl
theorem ly89 {sh : List Sh} {R : Rf} (h : LY sh R) : sh[89]? = some (.inr (0, 8)) := h.1 89 _ rfl
theorem ly90 {sh : List Sh} {R : Rf} (h : LY sh R) : sh[90]? = some (.inr (0, 80)) := h.1 90 _ rfl
theorem ly91 {sh : List Sh} {R : Rf} (h : LY sh R) : sh[91]? = some (.inr (0, 6)) := h.1 91 _ rfl
theorem ly92 {sh : List Sh} {R : Rf} (h : LY sh R) : sh[92]? = some (.inl 8) := h.1 92 _ rfl
theorem ly93 {sh : List Sh} {R : Rf} (h : LY sh R) : sh[93]? = some (.inr (0, 8)) := h.1 93 _ rfl
theorem ly94 {sh : List Sh} {R : Rf} (h : LY sh R) : sh[94]? = some (.inr (0, 8)) := h.1 94 _ rfl
theorem ly95 {sh : List Sh} {R : Rf} (h : LY sh R) : sh[95]? = some (.inr (0, 8)) := h.1 95 _ rfl
theorem ly96 {sh : List Sh} {R : Rf} (h : LY sh R) : sh[96]? = some (.inr (0, 8)) := h.1 96 _ rfl
theorem ly97 {sh : List Sh} {R : Rf} (h : LY sh R) : sh[97]? = some (.inr (0, 80)) := h.1 97 _ rfl
theorem ly98 {sh : List Sh} {R : Rf} (h : LY sh R) : sh[98]? = some (.inr (0, 6)) := h.1 98 _ rfl
theorem ly99 {sh : List Sh} {R : Rf} (h : LY sh R) : sh[99]? = some (.inl 8) := h.1 99 _ rfl
theorem ly100 {sh : List Sh} {R : Rf} (h : LY sh R) : sh[100]? = some (.inr (0, 8)) := h.1 100 _ rfl
theorem ly101 {sh : List Sh} {R : Rf} (h : LY sh R) : sh[101]? = some (.inr (0, 8)) := h.1 101 _ rfl
theorem ly102 {sh : List Sh} {R : Rf} (h : LY sh R) : sh[102]? = some (.inr (0, 8)) := h.1 102 _ rfl
theorem ly103 {sh : List Sh} {R : Rf} (h : LY sh R) : sh[103]? = some (.inr (0, 8)) := h.1 103 _ rfl
theorem ly104 {sh : List Sh} {R : Rf} (h : LY sh R) : sh[104]? = some (.inr (0, 80)) := h.1 104 _ rfl
theorem ly105 {sh : List Sh} {R : Rf} (h : LY sh R) : sh[105]? = some (.inr (0, 6)) := h.1 105 _ rfl
theorem ly106 {sh : List Sh} {R : Rf} (h : LY sh R) : sh[106]? = some (.inl 8) := h.1 106 _ rfl
theorem ly107 {sh : List Sh} {R : Rf} (h : LY sh R) : sh[107]? = some (.inr (0, 8)) := h.1 107 _ rfl
theorem ly108 {sh : List Sh} {R : Rf} (h : LY sh R) : sh[108]? = some (.inr (0, 8)) := h.1 108 _ rfl
theorem ly109 {sh : List Sh} {R : Rf} (h : LY sh R) : sh[109]? = some (.inr (0, 8)) := h.1 109 _ rfl
theorem ly110 {sh : List Sh} {R : Rf} (h : LY sh R) : sh[110]? = some (.inr (0, 8)) := h.1 110 _ rfl
theorem ly111 {sh : List Sh} {R : Rf} (h : LY sh R) : sh[111]? = some (.inr (0, 80)) := h.1 111 _ rfl
theorem ly112 {sh : List Sh} {R : Rf} (h : LY sh R) : sh[112]? = some (.inr (0, 6)) := h.1 112 _ rfl
theorem ly113 {sh : List Sh} {R : Rf} (h : LY sh R) : sh[113]? = some (.inl 8) := h.1 113 _ rfl
theorem ly114 {sh : List Sh} {R : Rf} (h : LY sh R) : sh[114]? = some (.inr (0, 8)) := h.1 114 _ rfl
theorem ly115 {sh : List Sh} {R : Rf} (h : LY sh R) : sh[115]? = some (.inr (0, 8)) := h.1 115 _ rfl
theorem ly116 {sh : List Sh} {R : Rf} (h : LY sh R) : sh[116]? = some (.inr (0, 8)) := h.1 116 _ rfl
theorem ly117 {sh : List Sh} {R : Rf} (h : LY sh R) : sh[117]? = some (.inr (0, 8)) := h.1 117 _ rfl
theorem ly118 {sh : List Sh} {R : Rf} (h : LY sh R) : sh[118]? = some (.inr (0, 80)) := h.1 118 _ rfl
theorem ly119 {sh : List Sh} {R : Rf} (h : LY sh R) : sh[119]? = some (.inr (0, 6)) := h.1 119 _ rfl
theorem ly120 {sh : List Sh} {R : Rf} (h : LY sh R) : sh[120]? = some (.inl 0) := h.1 120 _ rfl
theorem ly121 {sh : List Sh} {R : Rf} (h : LY sh R) : sh[121]? = some (.inr (0, 720)) := h.1 121 _ rfl
theorem ly122 {sh : List Sh} {R : Rf} (h : LY sh R) : sh[122]? = some (.inr (0, 432)) := h.1 122 _ rfl
theorem ly123 {sh : List Sh} {R : Rf} (h : LY sh R) : sh[123]? = some (.inr (0, 6)) := h.1 123 _ rfl
theorem ly124 {sh : List Sh} {R : Rf} (h : LY sh R) : sh[124]? = some (.inl 4) := h.1 124 _ rfl
theorem ly125 {sh : List Sh} {R : Rf} (h : LY sh R) : sh[125]? = some (.inr (0, 64)) := h.1 125 _ rfl
theorem ly126 {sh : List Sh} {R : Rf} (h : LY sh R) : sh[126]? = some (.inr (0, 8)) := h.1 126 _ rfl
theorem ly127 {sh : List Sh} {R : Rf} (h : LY sh R) : sh[127]? = some (.inr (0, 8)) := h.1 127 _ rfl
theorem ly128 {sh : List Sh} {R : Rf} (h : LY sh R) : sh[128]? = some (.inr (5, 4)) := h.1 128 _ rfl
theorem ly129 {sh : List Sh} {R : Rf} (h : LY sh R) : sh[129]? = some (.inl 10) := h.1 129 _ rfl
theorem ly130 {sh : List Sh} {R : Rf} (h : LY sh R) : sh[130]? = some (.inr (3, 40)) := h.1 130 _ rfl
theorem ly131 {sh : List Sh} {R : Rf} (h : LY sh R) : sh[131]? = some (.inl 10) := h.1 131 _ rfl
theorem ly132 {sh : List Sh} {R : Rf} (h : LY sh R) : sh[132]? = some (.inr (3, 40)) := h.1 132 _ rfl
theorem ly133 {sh : List Sh} {R : Rf} (h : LY sh R) : sh[133]? = some (.inl 10) := h.1 133 _ rfl
theorem ly134 {sh : List Sh} {R : Rf} (h : LY sh R) : sh[134]? = some (.inr (3, 40)) := h.1 134 _ rfl
theorem ly135 {sh : List Sh} {R : Rf} (h : LY sh R) : sh[135]? = some (.inl 10) := h.1 135 _ rfl
theorem ly136 {sh : List Sh} {R : Rf} (h : LY sh R) : sh[136]? = some (.inr (3, 40)) := h.1 136 _ rfl
theorem ly137 {sh : List Sh} {R : Rf} (h : LY sh R) : sh[137]? = some (.inr (6, 2)) := h.1 137 _ rfl
theorem ly138 {sh : List Sh} {R : Rf} (h : LY sh R) : sh[138]? = some (.inr (0, 6)) := h.1 138 _ rfl
theorem ly139 {sh : List Sh} {R : Rf} (h : LY sh R) : sh[139]? = some (.inl 12) := h.1 139 _ rfl
theorem ly140 {sh : List Sh} {R : Rf} (h : LY sh R) : sh[140]? = some (.inr (0, 6726)) := h.1 140 _ rfl
theorem ly141 {sh : List Sh} {R : Rf} (h : LY sh R) : sh[141]? = some (.inr (2, 2)) := h.1 141 _ rfl
theorem ly142 {sh : List Sh} {R : Rf} (h : LY sh R) : sh[142]? = some (.inr (0, 900)) := h.1 142 _ rfl
theorem ly143 {sh : List Sh} {R : Rf} (h : LY sh R) : sh[143]? = some (.inr (0, 2242)) := h.1 143 _ rfl
theorem ly144 {sh : List Sh} {R : Rf} (h : LY sh R) : sh[144]? = some (.inr (0, 900)) := h.1 144 _ rfl
theorem ly145 {sh : List Sh} {R : Rf} (h : LY sh R) : sh[145]? = some (.inr (0, 9)) := h.1 145 _ rfl
theorem ly146 {sh : List Sh} {R : Rf} (h : LY sh R) : sh[146]? = some (.inr (0, 116)) := h.1 146 _ rfl
theorem ly147 {sh : List Sh} {R : Rf} (h : LY sh R) : sh[147]? = some (.inr (0, 8)) := h.1 147 _ rfl
theorem ly148 {sh : List Sh} {R : Rf} (h : LY sh R) : sh[148]? = some (.inr (0, 6)) := h.1 148 _ rfl
theorem ly149 {sh : List Sh} {R : Rf} (h : LY sh R) : sh[149]? = some (.inr (0, 8)) := h.1 149 _ rfl
theorem ly150 {sh : List Sh} {R : Rf} (h : LY sh R) : sh[150]? = some (.inr (0, 8)) := h.1 150 _ rfl
theorem ly151 {sh : List Sh} {R : Rf} (h : LY sh R) : sh[151]? = some (.inr (0, 64)) := h.1 151 _ rfl
theorem ly152 {sh : List Sh} {R : Rf} (h : LY sh R) : sh[152]? = some (.inr (0, 4)) := h.1 152 _ rfl
theorem ly153 {sh : List Sh} {R : Rf} (h : LY sh R) : sh[153]? = some (.inr (0, 4)) := h.1 153 _ rfl
theorem ly154 {sh : List Sh} {R : Rf} (h : LY sh R) : sh[154]? = some (.inr (3, 160)) := h.1 154 _ rfl
theorem lr25_0 {sh : List Sh} {R : Rf} (h : LY sh R) : R 25 0 = some 26 := h.2 (25, 0, 26) (by decide)
theorem lr25_1 {sh : List Sh} {R : Rf} (h : LY sh R) : R 25 1 = some 27 := h.2 (25, 1, 27) (by decide)
theorem lr28_1 {sh : List Sh} {R : Rf} (h : LY sh R) : R 28 1 = some 29 := h.2 (28, 1, 29) (by decide)
theorem lr28_2 {sh : List Sh} {R : Rf} (h : LY sh R) : R 28 2 = some 30 := h.2 (28, 2, 30) (by decide)
theorem lr28_3 {sh : List Sh} {R : Rf} (h : LY sh R) : R 28 3 = some 31 := h.2 (28, 3, 31) (by decide)
theorem lr28_4 {sh : List Sh} {R : Rf} (h : LY sh R) : R 28 4 = some 32 := h.2 (28, 4, 32) (by decide)
theorem lr28_5 {sh : List Sh} {R : Rf} (h : LY sh R) : R 28 5 = some 33 := h.2 (28, 5, 33) (by decide)
theorem lr28_0 {sh : List Sh} {R : Rf} (h : LY sh R) : R 28 0 = some 2 := h.2 (28, 0, 2) (by decide)
theorem lr13_0 {sh : List Sh} {R : Rf} (h : LY sh R) : R 13 0 = some 14 := h.2 (13, 0, 14) (by decide)
theorem lr13_3 {sh : List Sh} {R : Rf} (h : LY sh R) : R 13 3 = some 25 := h.2 (13, 3, 25) (by decide)
theorem lr48_0 {sh : List Sh} {R : Rf} (h : LY sh R) : R 48 0 = some 49 := h.2 (48, 0, 49) (by decide)
theorem lr120_3 {sh : List Sh} {R : Rf} (h : LY sh R) : R 120 3 = some 121 := h.2 (120, 3, 121) (by decide)
theorem lr120_4 {sh : List Sh} {R : Rf} (h : LY sh R) : R 120 4 = some 122 := h.2 (120, 4, 122) (by decide)
theorem lr120_5 {sh : List Sh} {R : Rf} (h : LY sh R) : R 120 5 = some 123 := h.2 (120, 5, 123) (by decide)
theorem lr120_0 {sh : List Sh} {R : Rf} (h : LY sh R) : R 120 0 = some 2 := h.2 (120, 0, 2) (by decide)
theorem lr120_1 {sh : List Sh} {R : Rf} (h : LY sh R) : R 120 1 = some 28 := h.2 (120, 1, 28) (by decide)
theorem lr120_2 {sh : List Sh} {R : Rf} (h : LY sh R) : R 120 2 = some 34 := h.2 (120, 2, 34) (by decide)
theorem lr124_0 {sh : List Sh} {R : Rf} (h : LY sh R) : R 124 0 = some 125 := h.2 (124, 0, 125) (by decide)
theorem lr124_1 {sh : List Sh} {R : Rf} (h : LY sh R) : R 124 1 = some 126 := h.2 (124, 1, 126) (by decide)
theorem lr124_2 {sh : List Sh} {R : Rf} (h : LY sh R) : R 124 2 = some 127 := h.2 (124, 2, 127) (by decide)
theorem lr0_0 {sh : List Sh} {R : Rf} (h : LY sh R) : R 0 0 = some 1 := h.2 (0, 0, 1) (by decide)
theorem lr0_4 {sh : List Sh} {R : Rf} (h : LY sh R) : R 0 4 = some 2 := h.2 (0, 4, 2) (by decide)
theorem lr0_5 {sh : List Sh} {R : Rf} (h : LY sh R) : R 0 5 = some 13 := h.2 (0, 5, 13) (by decide)
theorem lr0_6 {sh : List Sh} {R : Rf} (h : LY sh R) : R 0 6 = some 28 := h.2 (0, 6, 28) (by decide)
theorem lr0_7 {sh : List Sh} {R : Rf} (h : LY sh R) : R 0 7 = some 34 := h.2 (0, 7, 34) (by decide)
theorem lr0_8 {sh : List Sh} {R : Rf} (h : LY sh R) : R 0 8 = some 41 := h.2 (0, 8, 41) (by decide)
theorem lr0_9 {sh : List Sh} {R : Rf} (h : LY sh R) : R 0 9 = some 48 := h.2 (0, 9, 48) (by decide)
theorem lr0_10 {sh : List Sh} {R : Rf} (h : LY sh R) : R 0 10 = some 120 := h.2 (0, 10, 120) (by decide)
theorem lr0_11 {sh : List Sh} {R : Rf} (h : LY sh R) : R 0 11 = some 124 := h.2 (0, 11, 124) (by decide)
theorem lr0_12 {sh : List Sh} {R : Rf} (h : LY sh R) : R 0 12 = some 128 := h.2 (0, 12, 128) (by decide)
theorem lr0_13 {sh : List Sh} {R : Rf} (h : LY sh R) : R 0 13 = some 137 := h.2 (0, 13, 137) (by decide)
theorem lr0_14 {sh : List Sh} {R : Rf} (h : LY sh R) : R 0 14 = some 138 := h.2 (0, 14, 138) (by decide)
theorem lr139_1 {sh : List Sh} {R : Rf} (h : LY sh R) : R 139 1 = some 140 := h.2 (139, 1, 140) (by decide)
theorem lr139_2 {sh : List Sh} {R : Rf} (h : LY sh R) : R 139 2 = some 141 := h.2 (139, 2, 141) (by decide)
theorem lr139_3 {sh : List Sh} {R : Rf} (h : LY sh R) : R 139 3 = some 142 := h.2 (139, 3, 142) (by decide)
theorem lr139_4 {sh : List Sh} {R : Rf} (h : LY sh R) : R 139 4 = some 143 := h.2 (139, 4, 143) (by decide)
theorem lr139_16 {sh : List Sh} {R : Rf} (h : LY sh R) : R 139 16 = some 144 := h.2 (139, 16, 144) (by decide)
theorem lr139_17 {sh : List Sh} {R : Rf} (h : LY sh R) : R 139 17 = some 145 := h.2 (139, 17, 145) (by decide)
theorem lr139_18 {sh : List Sh} {R : Rf} (h : LY sh R) : R 139 18 = some 146 := h.2 (139, 18, 146) (by decide)
theorem lr139_21 {sh : List Sh} {R : Rf} (h : LY sh R) : R 139 21 = some 147 := h.2 (139, 21, 147) (by decide)
theorem lr139_22 {sh : List Sh} {R : Rf} (h : LY sh R) : R 139 22 = some 148 := h.2 (139, 22, 148) (by decide)
theorem lr139_23 {sh : List Sh} {R : Rf} (h : LY sh R) : R 139 23 = some 149 := h.2 (139, 23, 149) (by decide)
theorem lr139_24 {sh : List Sh} {R : Rf} (h : LY sh R) : R 139 24 = some 150 := h.2 (139, 24, 150) (by decide)
theorem lr139_25 {sh : List Sh} {R : Rf} (h : LY sh R) : R 139 25 = some 151 := h.2 (139, 25, 151) (by decide)
theorem lr139_27 {sh : List Sh} {R : Rf} (h : LY sh R) : R 139 27 = some 152 := h.2 (139, 27, 152) (by decide)
theorem lr139_28 {sh : List Sh} {R : Rf} (h : LY sh R) : R 139 28 = some 153 := h.2 (139, 28, 153) (by decide)
theorem lr139_29 {sh : List Sh} {R : Rf} (h : LY sh R) : R 139 29 = some 154 := h.2 (139, 29, 154) (by decide)
theorem lySea {sh : List Sh} {R : Rf} (h : LY sh R) : isSea sh R 2 := by
  refine ⟨fun k e hk => ?_, fun q hq => ?_⟩
  · refine h.1 (2 + k) e ?_
    match k, hk with
    | 0, hk => exact hk
    | 1, hk => exact hk
    | 2, hk => exact hk
    | 3, hk => exact hk
    | 4, hk => exact hk
    | 5, hk => exact hk
    | 6, hk => exact hk
    | 7, hk => exact hk
    | 8, hk => exact hk
    | 9, hk => exact hk
    | 10, hk => exact hk
    | k + 11, hk => cases hk
  · refine h.2 (2 + q.1, q.2.1, 2 + q.2.2) ?_
    revert hq; revert q; decide
theorem lyRSea {sh : List Sh} {R : Rf} (h : LY sh R) : isSea sh R 14 := by
  refine ⟨fun k e hk => ?_, fun q hq => ?_⟩
  · refine h.1 (14 + k) e ?_
    match k, hk with
    | 0, hk => exact hk
    | 1, hk => exact hk
    | 2, hk => exact hk
    | 3, hk => exact hk
    | 4, hk => exact hk
    | 5, hk => exact hk
    | 6, hk => exact hk
    | 7, hk => exact hk
    | 8, hk => exact hk
    | 9, hk => exact hk
    | 10, hk => exact hk
    | k + 11, hk => cases hk
  · refine h.2 (14 + q.1, q.2.1, 14 + q.2.2) ?_
    revert hq; revert q; decide
theorem lyNow {sh : List Sh} {R : Rf} (h : LY sh R) : isSt sh R 34 := by
  refine ⟨fun k e hk => ?_, fun q hq => ?_⟩
  · refine h.1 (34 + k) e ?_
    match k, hk with
    | 0, hk => exact hk
    | 1, hk => exact hk
    | 2, hk => exact hk
    | 3, hk => exact hk
    | 4, hk => exact hk
    | 5, hk => exact hk
    | 6, hk => exact hk
    | k + 7, hk => cases hk
  · refine h.2 (34 + q.1, q.2.1, 34 + q.2.2) ?_
    revert hq; revert q; decide
theorem lyProbe {sh : List Sh} {R : Rf} (h : LY sh R) : isSt sh R 41 := by
  refine ⟨fun k e hk => ?_, fun q hq => ?_⟩
  · refine h.1 (41 + k) e ?_
    match k, hk with
    | 0, hk => exact hk
    | 1, hk => exact hk
    | 2, hk => exact hk
    | 3, hk => exact hk
    | 4, hk => exact hk
    | 5, hk => exact hk
    | 6, hk => exact hk
    | k + 7, hk => cases hk
  · refine h.2 (41 + q.1, q.2.1, 41 + q.2.2) ?_
    revert hq; revert q; decide
theorem lyKept0 {sh : List Sh} {R : Rf} (h : LY sh R) : isSt sh R 50 := by
  refine ⟨fun k e hk => ?_, fun q hq => ?_⟩
  · refine h.1 (50 + k) e ?_
    match k, hk with
    | 0, hk => exact hk
    | 1, hk => exact hk
    | 2, hk => exact hk
    | 3, hk => exact hk
    | 4, hk => exact hk
    | 5, hk => exact hk
    | 6, hk => exact hk
    | k + 7, hk => cases hk
  · refine h.2 (50 + q.1, q.2.1, 50 + q.2.2) ?_
    revert hq; revert q; decide
theorem lyKept1 {sh : List Sh} {R : Rf} (h : LY sh R) : isSt sh R 57 := by
  refine ⟨fun k e hk => ?_, fun q hq => ?_⟩
  · refine h.1 (57 + k) e ?_
    match k, hk with
    | 0, hk => exact hk
    | 1, hk => exact hk
    | 2, hk => exact hk
    | 3, hk => exact hk
    | 4, hk => exact hk
    | 5, hk => exact hk
    | 6, hk => exact hk
    | k + 7, hk => cases hk
  · refine h.2 (57 + q.1, q.2.1, 57 + q.2.2) ?_
    revert hq; revert q; decide
theorem lyKept2 {sh : List Sh} {R : Rf} (h : LY sh R) : isSt sh R 64 := by
  refine ⟨fun k e hk => ?_, fun q hq => ?_⟩
  · refine h.1 (64 + k) e ?_
    match k, hk with
    | 0, hk => exact hk
    | 1, hk => exact hk
    | 2, hk => exact hk
    | 3, hk => exact hk
    | 4, hk => exact hk
    | 5, hk => exact hk
    | 6, hk => exact hk
    | k + 7, hk => cases hk
  · refine h.2 (64 + q.1, q.2.1, 64 + q.2.2) ?_
    revert hq; revert q; decide
theorem lyKept3 {sh : List Sh} {R : Rf} (h : LY sh R) : isSt sh R 71 := by
  refine ⟨fun k e hk => ?_, fun q hq => ?_⟩
  · refine h.1 (71 + k) e ?_
    match k, hk with
    | 0, hk => exact hk
    | 1, hk => exact hk
    | 2, hk => exact hk
    | 3, hk => exact hk
    | 4, hk => exact hk
    | 5, hk => exact hk
    | 6, hk => exact hk
    | k + 7, hk => cases hk
  · refine h.2 (71 + q.1, q.2.1, 71 + q.2.2) ?_
    revert hq; revert q; decide
theorem lyKept4 {sh : List Sh} {R : Rf} (h : LY sh R) : isSt sh R 78 := by
  refine ⟨fun k e hk => ?_, fun q hq => ?_⟩
  · refine h.1 (78 + k) e ?_
    match k, hk with
    | 0, hk => exact hk
    | 1, hk => exact hk
    | 2, hk => exact hk
    | 3, hk => exact hk
    | 4, hk => exact hk
    | 5, hk => exact hk
    | 6, hk => exact hk
    | k + 7, hk => cases hk
  · refine h.2 (78 + q.1, q.2.1, 78 + q.2.2) ?_
    revert hq; revert q; decide
theorem lyKept5 {sh : List Sh} {R : Rf} (h : LY sh R) : isSt sh R 85 := by
  refine ⟨fun k e hk => ?_, fun q hq => ?_⟩
  · refine h.1 (85 + k) e ?_
    match k, hk with
    | 0, hk => exact hk
    | 1, hk => exact hk
    | 2, hk => exact hk
    | 3, hk => exact hk
    | 4, hk => exact hk
    | 5, hk => exact hk
    | 6, hk => exact hk
    | k + 7, hk => cases hk
  · refine h.2 (85 + q.1, q.2.1, 85 + q.2.2) ?_
    revert hq; revert q; decide
theorem lyKept6 {sh : List Sh} {R : Rf} (h : LY sh R) : isSt sh R 92 := by
  refine ⟨fun k e hk => ?_, fun q hq => ?_⟩
  · refine h.1 (92 + k) e ?_
    match k, hk with
    | 0, hk => exact hk
    | 1, hk => exact hk
    | 2, hk => exact hk
    | 3, hk => exact hk
    | 4, hk => exact hk
    | 5, hk => exact hk
    | 6, hk => exact hk
    | k + 7, hk => cases hk
  · refine h.2 (92 + q.1, q.2.1, 92 + q.2.2) ?_
    revert hq; revert q; decide
theorem lyKept7 {sh : List Sh} {R : Rf} (h : LY sh R) : isSt sh R 99 := by
  refine ⟨fun k e hk => ?_, fun q hq => ?_⟩
  · refine h.1 (99 + k) e ?_
    match k, hk with
    | 0, hk => exact hk
    | 1, hk => exact hk
    | 2, hk => exact hk
    | 3, hk => exact hk
    | 4, hk => exact hk
    | 5, hk => exact hk
    | 6, hk => exact hk
    | k + 7, hk => cases hk
  · refine h.2 (99 + q.1, q.2.1, 99 + q.2.2) ?_
    revert hq; revert q; decide
theorem lyKept8 {sh : List Sh} {R : Rf} (h : LY sh R) : isSt sh R 106 := by
  refine ⟨fun k e hk => ?_, fun q hq => ?_⟩
  · refine h.1 (106 + k) e ?_
    match k, hk with
    | 0, hk => exact hk
    | 1, hk => exact hk
    | 2, hk => exact hk
    | 3, hk => exact hk
    | 4, hk => exact hk
    | 5, hk => exact hk
    | 6, hk => exact hk
    | k + 7, hk => cases hk
  · refine h.2 (106 + q.1, q.2.1, 106 + q.2.2) ?_
    revert hq; revert q; decide
theorem lyKept9 {sh : List Sh} {R : Rf} (h : LY sh R) : isSt sh R 113 := by
  refine ⟨fun k e hk => ?_, fun q hq => ?_⟩
  · refine h.1 (113 + k) e ?_
    match k, hk with
    | 0, hk => exact hk
    | 1, hk => exact hk
    | 2, hk => exact hk
    | 3, hk => exact hk
    | 4, hk => exact hk
    | 5, hk => exact hk
    | 6, hk => exact hk
    | k + 7, hk => cases hk
  · refine h.2 (113 + q.1, q.2.1, 113 + q.2.2) ?_
    revert hq; revert q; decide
theorem lyTray0 {sh : List Sh} {R : Rf} (h : LY sh R) : isTr sh R 129 := by
  refine ⟨fun k e hk => ?_, fun q hq => ?_⟩
  · refine h.1 (129 + k) e ?_
    match k, hk with
    | 0, hk => exact hk
    | 1, hk => exact hk
    | k + 2, hk => cases hk
  · refine h.2 (129 + q.1, q.2.1, 129 + q.2.2) ?_
    revert hq; revert q; decide
theorem lyTray1 {sh : List Sh} {R : Rf} (h : LY sh R) : isTr sh R 131 := by
  refine ⟨fun k e hk => ?_, fun q hq => ?_⟩
  · refine h.1 (131 + k) e ?_
    match k, hk with
    | 0, hk => exact hk
    | 1, hk => exact hk
    | k + 2, hk => cases hk
  · refine h.2 (131 + q.1, q.2.1, 131 + q.2.2) ?_
    revert hq; revert q; decide
theorem lyTray2 {sh : List Sh} {R : Rf} (h : LY sh R) : isTr sh R 133 := by
  refine ⟨fun k e hk => ?_, fun q hq => ?_⟩
  · refine h.1 (133 + k) e ?_
    match k, hk with
    | 0, hk => exact hk
    | 1, hk => exact hk
    | k + 2, hk => cases hk
  · refine h.2 (133 + q.1, q.2.1, 133 + q.2.2) ?_
    revert hq; revert q; decide
theorem lyTray3 {sh : List Sh} {R : Rf} (h : LY sh R) : isTr sh R 135 := by
  refine ⟨fun k e hk => ?_, fun q hq => ?_⟩
  · refine h.1 (135 + k) e ?_
    match k, hk with
    | 0, hk => exact hk
    | 1, hk => exact hk
    | k + 2, hk => cases hk
  · refine h.2 (135 + q.1, q.2.1, 135 + q.2.2) ?_
    revert hq; revert q; decide
theorem lyKept {sh : List Sh} {R : Rf} (h : LY sh R) {i : Int32} (hi : ib i 10 = true) : isSt sh R (50 + 7 * ix i) ∧ R 49 (ix i) = some (50 + 7 * ix i) := by
  have hlt : ix i < 10 := ib_lt hi
  generalize ix i = j at hlt ⊢
  match j, hlt with
  | 0, _ => exact ⟨lyKept0 h, h.2 (49, 0, 50) (by decide)⟩
  | 1, _ => exact ⟨lyKept1 h, h.2 (49, 1, 57) (by decide)⟩
  | 2, _ => exact ⟨lyKept2 h, h.2 (49, 2, 64) (by decide)⟩
  | 3, _ => exact ⟨lyKept3 h, h.2 (49, 3, 71) (by decide)⟩
  | 4, _ => exact ⟨lyKept4 h, h.2 (49, 4, 78) (by decide)⟩
  | 5, _ => exact ⟨lyKept5 h, h.2 (49, 5, 85) (by decide)⟩
  | 6, _ => exact ⟨lyKept6 h, h.2 (49, 6, 92) (by decide)⟩
  | 7, _ => exact ⟨lyKept7 h, h.2 (49, 7, 99) (by decide)⟩
  | 8, _ => exact ⟨lyKept8 h, h.2 (49, 8, 106) (by decide)⟩
  | 9, _ => exact ⟨lyKept9 h, h.2 (49, 9, 113) (by decide)⟩
theorem lyTray {sh : List Sh} {R : Rf} (h : LY sh R) {i : Int32} (hi : ib i 4 = true) : isTr sh R (129 + 2 * ix i) ∧ R 128 (ix i) = some (129 + 2 * ix i) := by
  have hlt : ix i < 4 := ib_lt hi
  generalize ix i = j at hlt ⊢
  match j, hlt with
  | 0, _ => exact ⟨lyTray0 h, h.2 (128, 0, 129) (by decide)⟩
  | 1, _ => exact ⟨lyTray1 h, h.2 (128, 1, 131) (by decide)⟩
  | 2, _ => exact ⟨lyTray2 h, h.2 (128, 2, 133) (by decide)⟩
  | 3, _ => exact ⟨lyTray3 h, h.2 (128, 3, 135) (by decide)⟩
theorem pf_J0 : plainName RJ0 = true := by decide +kernel
theorem pf_J1 : plainName RJ1 = true := by decide +kernel
theorem pf_J6 : plainName RJ6 = true := by decide +kernel
theorem pf_J7 : plainName RJ7 = true := by decide +kernel
theorem pf_X0 : plainName RX0 = true := by decide +kernel
theorem pf_X1 : plainName RX1 = true := by decide +kernel
theorem pf_X10 : plainName RX10 = true := by decide +kernel
theorem pf_X11 : plainName RX11 = true := by decide +kernel
theorem pf_X12 : plainName RX12 = true := by decide +kernel
theorem pf_X2 : plainName RX2 = true := by decide +kernel
theorem pf_X3 : plainName RX3 = true := by decide +kernel
theorem pf_X4 : plainName RX4 = true := by decide +kernel
theorem pf_X5 : plainName RX5 = true := by decide +kernel
theorem pf_X6 : plainName RX6 = true := by decide +kernel
theorem pf_X7 : plainName RX7 = true := by decide +kernel
theorem pf_X8 : plainName RX8 = true := by decide +kernel
theorem pf_X9 : plainName RX9 = true := by decide +kernel
def bnd2 {α β γ : Type} (x : Option (α × β)) (k : α → β → Option γ) : Option γ := match x with
  | none => none
  | some (a, b) => k a b
theorem bnd2_inv {α β γ : Type} {x : Option (α × β)} {k : α → β → Option γ} {o : γ} (h : bnd2 x k = some o) : ∃ a b, x = some (a, b) ∧ k a b = some o := by
  cases x with
  | none => cases h
  | some q => exact ⟨q.1, q.2, rfl, h⟩
section
variable {Z : ZC} {G : GC} {μ μ' : Mu} {pc : Nat} {lv : List (Nat × Value)} {cc : ByteArray} {nL : Nat} {own : String}
theorem sel_t {c : Prop} {i : Decidable c} {a b : Int32} {r : List Value} (hc : c) (h : Wm Z G μ pc lv (.int (@ite _ c i a b) :: r)) : Wm Z G μ pc lv (.int a :: r) := by rw [if_pos hc] at h; exact h
theorem sel_f {c : Prop} {i : Decidable c} {a b : Int32} {r : List Value} (hc : ¬ c) (h : Wm Z G μ pc lv (.int (@ite _ c i a b) :: r)) : Wm Z G μ pc lv (.int b :: r) := by rw [if_neg hc] at h; exact h
theorem lel_t {c : Prop} {i : Decidable c} {a b : Int64} {r : List Value} (hc : c) (h : Wm Z G μ pc lv (.long (@ite _ c i a b) :: r)) : Wm Z G μ pc lv (.long a :: r) := by rw [if_pos hc] at h; exact h
theorem lel_f {c : Prop} {i : Decidable c} {a b : Int64} {r : List Value} (hc : ¬ c) (h : Wm Z G μ pc lv (.long (@ite _ c i a b) :: r)) : Wm Z G μ pc lv (.long b :: r) := by rw [if_neg hc] at h; exact h
theorem rmO {d d' nL' mc ms : Nat} (h : zR Z = rm d mc ms) (h1 : d' + 1 ≤ d) (h2 : nL' ≤ 41) : d' + 1 ≤ (zR Z).frames ∧ 8 + (nL' + 11) + 60 * d' ≤ (zR Z).locals := by
  rw [h]
  exact ⟨h1, by show _ ≤ 60 * d; omega⟩
theorem rmA {d mc ms : Nat} (h : zR Z = rm d mc ms) (h1 : 1 ≤ d) : 1 ≤ (zR Z).frames ∧ 60 ≤ (zR Z).locals := by
  rw [h]
  exact ⟨h1, by show _ ≤ 60 * d; omega⟩
theorem tne {x : Int32} {k : Int} {v : Int32} (h : ¬ x = v) (hv : v.toInt = k) : ¬ x.toInt = k := fun e => h (Int32.toInt_inj.mp (by rw [e, hv]))
theorem r_cVi {cc' : ByteArray} {nL' n idx d' a ci d0 : Nat} {y : MethodName} {ret : Option FieldType} {sh : List Sh} {R : Rf} {x : Int32} {As rest st : List Value} {T : u_T} {N : Nat} (C : CX Z cc nL own) (hR : zR Z = rm d0 0 0) (L : VL own idx y cc' nL' ret n) (d : decode cc pc = .ok (.invokevirtual idx, 3))
    (M : CM Z.1.2.1 (zw Z) y cc' nL' ret d' 0 0 sh R (.ref (wb (zw Z) + a) :: As) μ (some (.int x)) sh R μ') (hst : st = As.reverse ++ .ref (wb (zw Z) + a) :: rest) (hn : As.length = n) (hs : sh[a]? = some (.inl ci)) (hc : vwCl[ci]? = some (y.cls, T, N)) (h1 : d' + 1 ≤ d0) (h2 : nL' ≤ 41) (hW : (rest.map fun v => v.category).sum ≤ 8)
    (k : Wm Z (0, 0, sh, R) μ' (pc + 3) lv (.int x :: rest)) : Wm Z (0, 0, sh, R) μ pc lv st := r_callV (G := (0, 0, sh, R)) C L d M hst hn hs hc (rmO hR h1 h2) ⟨Nat.zero_le _, Nat.zero_le _⟩ hW k
theorem r_cSi {cc' : ByteArray} {nL' n idx d' d0 : Nat} {y : MethodName} {ret : Option FieldType} {sh : List Sh} {R : Rf} {x : Int32} {As rest st : List Value} (C : CX Z cc nL own) (hR : zR Z = rm d0 0 0) (L : SL own idx y cc' nL' ret n) (d : decode cc pc = .ok (.invokestatic idx, 3))
    (M : CM Z.1.2.1 (zw Z) y cc' nL' ret d' 0 0 sh R As μ (some (.int x)) sh R μ') (hst : st = As.reverse ++ rest) (hn : As.length = n) (h1 : d' + 1 ≤ d0) (h2 : nL' ≤ 41) (hW : (rest.map fun v => v.category).sum ≤ 8)
    (k : Wm Z (0, 0, sh, R) μ' (pc + 3) lv (.int x :: rest)) : Wm Z (0, 0, sh, R) μ pc lv st := r_callS (G := (0, 0, sh, R)) C L d M hst hn (rmO hR h1 h2) ⟨Nat.zero_le _, Nat.zero_le _⟩ hW k
theorem r_cVl {cc' : ByteArray} {nL' n idx d' a ci d0 : Nat} {y : MethodName} {ret : Option FieldType} {sh : List Sh} {R : Rf} {x : Int64} {As rest st : List Value} {T : u_T} {N : Nat} (C : CX Z cc nL own) (hR : zR Z = rm d0 0 0) (L : VL own idx y cc' nL' ret n) (d : decode cc pc = .ok (.invokevirtual idx, 3))
    (M : CM Z.1.2.1 (zw Z) y cc' nL' ret d' 0 0 sh R (.ref (wb (zw Z) + a) :: As) μ (some (.long x)) sh R μ') (hst : st = As.reverse ++ .ref (wb (zw Z) + a) :: rest) (hn : As.length = n) (hs : sh[a]? = some (.inl ci)) (hc : vwCl[ci]? = some (y.cls, T, N)) (h1 : d' + 1 ≤ d0) (h2 : nL' ≤ 41) (hW : (rest.map fun v => v.category).sum ≤ 8)
    (k : Wm Z (0, 0, sh, R) μ' (pc + 3) lv (.long x :: rest)) : Wm Z (0, 0, sh, R) μ pc lv st := r_callV (G := (0, 0, sh, R)) C L d M hst hn hs hc (rmO hR h1 h2) ⟨Nat.zero_le _, Nat.zero_le _⟩ hW k
theorem r_cSl {cc' : ByteArray} {nL' n idx d' d0 : Nat} {y : MethodName} {ret : Option FieldType} {sh : List Sh} {R : Rf} {x : Int64} {As rest st : List Value} (C : CX Z cc nL own) (hR : zR Z = rm d0 0 0) (L : SL own idx y cc' nL' ret n) (d : decode cc pc = .ok (.invokestatic idx, 3))
    (M : CM Z.1.2.1 (zw Z) y cc' nL' ret d' 0 0 sh R As μ (some (.long x)) sh R μ') (hst : st = As.reverse ++ rest) (hn : As.length = n) (h1 : d' + 1 ≤ d0) (h2 : nL' ≤ 41) (hW : (rest.map fun v => v.category).sum ≤ 8)
    (k : Wm Z (0, 0, sh, R) μ' (pc + 3) lv (.long x :: rest)) : Wm Z (0, 0, sh, R) μ pc lv st := r_callS (G := (0, 0, sh, R)) C L d M hst hn (rmO hR h1 h2) ⟨Nat.zero_le _, Nat.zero_le _⟩ hW k
theorem r_cVv {cc' : ByteArray} {nL' n idx d' a ci d0 : Nat} {y : MethodName} {ret : Option FieldType} {sh : List Sh} {R : Rf} {As rest st : List Value} {T : u_T} {N : Nat} (C : CX Z cc nL own) (hR : zR Z = rm d0 0 0) (L : VL own idx y cc' nL' ret n) (d : decode cc pc = .ok (.invokevirtual idx, 3))
    (M : CM Z.1.2.1 (zw Z) y cc' nL' ret d' 0 0 sh R (.ref (wb (zw Z) + a) :: As) μ (none) sh R μ') (hst : st = As.reverse ++ .ref (wb (zw Z) + a) :: rest) (hn : As.length = n) (hs : sh[a]? = some (.inl ci)) (hc : vwCl[ci]? = some (y.cls, T, N)) (h1 : d' + 1 ≤ d0) (h2 : nL' ≤ 41) (hW : (rest.map fun v => v.category).sum ≤ 8)
    (k : Wm Z (0, 0, sh, R) μ' (pc + 3) lv (rest)) : Wm Z (0, 0, sh, R) μ pc lv st := r_callV (G := (0, 0, sh, R)) C L d M hst hn hs hc (rmO hR h1 h2) ⟨Nat.zero_le _, Nat.zero_le _⟩ hW k
theorem r_cSv {cc' : ByteArray} {nL' n idx d' d0 : Nat} {y : MethodName} {ret : Option FieldType} {sh : List Sh} {R : Rf} {As rest st : List Value} (C : CX Z cc nL own) (hR : zR Z = rm d0 0 0) (L : SL own idx y cc' nL' ret n) (d : decode cc pc = .ok (.invokestatic idx, 3))
    (M : CM Z.1.2.1 (zw Z) y cc' nL' ret d' 0 0 sh R As μ (none) sh R μ') (hst : st = As.reverse ++ rest) (hn : As.length = n) (h1 : d' + 1 ≤ d0) (h2 : nL' ≤ 41) (hW : (rest.map fun v => v.category).sum ≤ 8)
    (k : Wm Z (0, 0, sh, R) μ' (pc + 3) lv (rest)) : Wm Z (0, 0, sh, R) μ pc lv st := r_callS (G := (0, 0, sh, R)) C L d M hst hn (rmO hR h1 h2) ⟨Nat.zero_le _, Nat.zero_le _⟩ hW k
end
theorem ic_m1 : Int32.ofInt (-1) = (-1) := by decide
theorem ic_0 : Int32.ofInt (0) = (0) := by decide
theorem ic_1 : Int32.ofInt (1) = (1) := by decide
theorem ic_2 : Int32.ofInt (2) = (2) := by decide
theorem ic_3 : Int32.ofInt (3) = (3) := by decide
theorem ic_4 : Int32.ofInt (4) = (4) := by decide
theorem ic_5 : Int32.ofInt (5) = (5) := by decide
theorem bp_m30 : (Int8.ofInt (-30)).toInt32 = (-30) := by decide
theorem bp_m11 : (Int8.ofInt (-11)).toInt32 = (-11) := by decide
theorem bp_m10 : (Int8.ofInt (-10)).toInt32 = (-10) := by decide
theorem bp_m9 : (Int8.ofInt (-9)).toInt32 = (-9) := by decide
theorem bp_m6 : (Int8.ofInt (-6)).toInt32 = (-6) := by decide
theorem bp_m5 : (Int8.ofInt (-5)).toInt32 = (-5) := by decide
theorem bp_m4 : (Int8.ofInt (-4)).toInt32 = (-4) := by decide
theorem bp_m3 : (Int8.ofInt (-3)).toInt32 = (-3) := by decide
theorem bp_m2 : (Int8.ofInt (-2)).toInt32 = (-2) := by decide
theorem bp_6 : (Int8.ofInt (6)).toInt32 = (6) := by decide
theorem bp_7 : (Int8.ofInt (7)).toInt32 = (7) := by decide
theorem bp_8 : (Int8.ofInt (8)).toInt32 = (8) := by decide
theorem bp_9 : (Int8.ofInt (9)).toInt32 = (9) := by decide
theorem bp_10 : (Int8.ofInt (10)).toInt32 = (10) := by decide
theorem bp_11 : (Int8.ofInt (11)).toInt32 = (11) := by decide
theorem bp_12 : (Int8.ofInt (12)).toInt32 = (12) := by decide
theorem bp_13 : (Int8.ofInt (13)).toInt32 = (13) := by decide
theorem bp_14 : (Int8.ofInt (14)).toInt32 = (14) := by decide
theorem bp_15 : (Int8.ofInt (15)).toInt32 = (15) := by decide
theorem bp_16 : (Int8.ofInt (16)).toInt32 = (16) := by decide
theorem bp_17 : (Int8.ofInt (17)).toInt32 = (17) := by decide
theorem bp_18 : (Int8.ofInt (18)).toInt32 = (18) := by decide
theorem bp_19 : (Int8.ofInt (19)).toInt32 = (19) := by decide
theorem bp_20 : (Int8.ofInt (20)).toInt32 = (20) := by decide
theorem bp_21 : (Int8.ofInt (21)).toInt32 = (21) := by decide
theorem bp_22 : (Int8.ofInt (22)).toInt32 = (22) := by decide
theorem bp_23 : (Int8.ofInt (23)).toInt32 = (23) := by decide
theorem bp_24 : (Int8.ofInt (24)).toInt32 = (24) := by decide
theorem bp_25 : (Int8.ofInt (25)).toInt32 = (25) := by decide
theorem bp_30 : (Int8.ofInt (30)).toInt32 = (30) := by decide
theorem bp_31 : (Int8.ofInt (31)).toInt32 = (31) := by decide
theorem bp_32 : (Int8.ofInt (32)).toInt32 = (32) := by decide
theorem bp_33 : (Int8.ofInt (33)).toInt32 = (33) := by decide
theorem bp_34 : (Int8.ofInt (34)).toInt32 = (34) := by decide
theorem bp_35 : (Int8.ofInt (35)).toInt32 = (35) := by decide
theorem bp_36 : (Int8.ofInt (36)).toInt32 = (36) := by decide
theorem bp_37 : (Int8.ofInt (37)).toInt32 = (37) := by decide
theorem bp_38 : (Int8.ofInt (38)).toInt32 = (38) := by decide
theorem bp_39 : (Int8.ofInt (39)).toInt32 = (39) := by decide
theorem bp_40 : (Int8.ofInt (40)).toInt32 = (40) := by decide
theorem bp_41 : (Int8.ofInt (41)).toInt32 = (41) := by decide
theorem bp_42 : (Int8.ofInt (42)).toInt32 = (42) := by decide
theorem bp_43 : (Int8.ofInt (43)).toInt32 = (43) := by decide
theorem bp_44 : (Int8.ofInt (44)).toInt32 = (44) := by decide
theorem bp_45 : (Int8.ofInt (45)).toInt32 = (45) := by decide
theorem bp_48 : (Int8.ofInt (48)).toInt32 = (48) := by decide
theorem bp_50 : (Int8.ofInt (50)).toInt32 = (50) := by decide
theorem bp_56 : (Int8.ofInt (56)).toInt32 = (56) := by decide
theorem bp_57 : (Int8.ofInt (57)).toInt32 = (57) := by decide
theorem bp_58 : (Int8.ofInt (58)).toInt32 = (58) := by decide
theorem bp_59 : (Int8.ofInt (59)).toInt32 = (59) := by decide
theorem bp_63 : (Int8.ofInt (63)).toInt32 = (63) := by decide
theorem bp_64 : (Int8.ofInt (64)).toInt32 = (64) := by decide
theorem bp_65 : (Int8.ofInt (65)).toInt32 = (65) := by decide
theorem bp_66 : (Int8.ofInt (66)).toInt32 = (66) := by decide
theorem bp_67 : (Int8.ofInt (67)).toInt32 = (67) := by decide
theorem bp_68 : (Int8.ofInt (68)).toInt32 = (68) := by decide
theorem bp_71 : (Int8.ofInt (71)).toInt32 = (71) := by decide
theorem bp_72 : (Int8.ofInt (72)).toInt32 = (72) := by decide
theorem bp_76 : (Int8.ofInt (76)).toInt32 = (76) := by decide
theorem bp_80 : (Int8.ofInt (80)).toInt32 = (80) := by decide
theorem bp_84 : (Int8.ofInt (84)).toInt32 = (84) := by decide
theorem bp_91 : (Int8.ofInt (91)).toInt32 = (91) := by decide
theorem bp_92 : (Int8.ofInt (92)).toInt32 = (92) := by decide
theorem bp_93 : (Int8.ofInt (93)).toInt32 = (93) := by decide
theorem bp_97 : (Int8.ofInt (97)).toInt32 = (97) := by decide
theorem bp_99 : (Int8.ofInt (99)).toInt32 = (99) := by decide
theorem bp_100 : (Int8.ofInt (100)).toInt32 = (100) := by decide
theorem bp_116 : (Int8.ofInt (116)).toInt32 = (116) := by decide
theorem bp_122 : (Int8.ofInt (122)).toInt32 = (122) := by decide
theorem sp_160 : (Int16.ofInt (160)).toInt32 = (160) := by decide
theorem sp_180 : (Int16.ofInt (180)).toInt32 = (180) := by decide
theorem sp_181 : (Int16.ofInt (181)).toInt32 = (181) := by decide
theorem sp_200 : (Int16.ofInt (200)).toInt32 = (200) := by decide
theorem sp_202 : (Int16.ofInt (202)).toInt32 = (202) := by decide
theorem sp_204 : (Int16.ofInt (204)).toInt32 = (204) := by decide
theorem sp_205 : (Int16.ofInt (205)).toInt32 = (205) := by decide
theorem sp_207 : (Int16.ofInt (207)).toInt32 = (207) := by decide
theorem sp_213 : (Int16.ofInt (213)).toInt32 = (213) := by decide
theorem sp_214 : (Int16.ofInt (214)).toInt32 = (214) := by decide
theorem sp_215 : (Int16.ofInt (215)).toInt32 = (215) := by decide
theorem sp_255 : (Int16.ofInt (255)).toInt32 = (255) := by decide
theorem sp_288 : (Int16.ofInt (288)).toInt32 = (288) := by decide
theorem sp_297 : (Int16.ofInt (297)).toInt32 = (297) := by decide
theorem sp_432 : (Int16.ofInt (432)).toInt32 = (432) := by decide
theorem sp_720 : (Int16.ofInt (720)).toInt32 = (720) := by decide
theorem sp_900 : (Int16.ofInt (900)).toInt32 = (900) := by decide
theorem sp_901 : (Int16.ofInt (901)).toInt32 = (901) := by decide
theorem sp_999 : (Int16.ofInt (999)).toInt32 = (999) := by decide
theorem sp_1000 : (Int16.ofInt (1000)).toInt32 = (1000) := by decide
theorem sp_1001 : (Int16.ofInt (1001)).toInt32 = (1001) := by decide
theorem sp_1002 : (Int16.ofInt (1002)).toInt32 = (1002) := by decide
theorem sp_1003 : (Int16.ofInt (1003)).toInt32 = (1003) := by decide
theorem sp_1004 : (Int16.ofInt (1004)).toInt32 = (1004) := by decide
theorem sp_1010 : (Int16.ofInt (1010)).toInt32 = (1010) := by decide
theorem sp_1011 : (Int16.ofInt (1011)).toInt32 = (1011) := by decide
theorem sp_1012 : (Int16.ofInt (1012)).toInt32 = (1012) := by decide
theorem sp_1013 : (Int16.ofInt (1013)).toInt32 = (1013) := by decide
theorem sp_1014 : (Int16.ofInt (1014)).toInt32 = (1014) := by decide
theorem sp_1015 : (Int16.ofInt (1015)).toInt32 = (1015) := by decide
theorem sp_1016 : (Int16.ofInt (1016)).toInt32 = (1016) := by decide
theorem sp_1017 : (Int16.ofInt (1017)).toInt32 = (1017) := by decide
theorem sp_1018 : (Int16.ofInt (1018)).toInt32 = (1018) := by decide
theorem sp_1023 : (Int16.ofInt (1023)).toInt32 = (1023) := by decide
theorem sp_1044 : (Int16.ofInt (1044)).toInt32 = (1044) := by decide
theorem sp_1100 : (Int16.ofInt (1100)).toInt32 = (1100) := by decide
theorem sp_1341 : (Int16.ofInt (1341)).toInt32 = (1341) := by decide
theorem sp_1342 : (Int16.ofInt (1342)).toInt32 = (1342) := by decide
theorem sp_2000 : (Int16.ofInt (2000)).toInt32 = (2000) := by decide
theorem sp_2242 : (Int16.ofInt (2242)).toInt32 = (2242) := by decide
theorem sp_3000 : (Int16.ofInt (3000)).toInt32 = (3000) := by decide
theorem sp_3001 : (Int16.ofInt (3001)).toInt32 = (3001) := by decide
theorem sp_3002 : (Int16.ofInt (3002)).toInt32 = (3002) := by decide
theorem sp_3003 : (Int16.ofInt (3003)).toInt32 = (3003) := by decide
theorem sp_3004 : (Int16.ofInt (3004)).toInt32 = (3004) := by decide
theorem sp_3005 : (Int16.ofInt (3005)).toInt32 = (3005) := by decide
theorem sp_3006 : (Int16.ofInt (3006)).toInt32 = (3006) := by decide
theorem sp_3007 : (Int16.ofInt (3007)).toInt32 = (3007) := by decide
theorem sp_3008 : (Int16.ofInt (3008)).toInt32 = (3008) := by decide
theorem sp_6726 : (Int16.ofInt (6726)).toInt32 = (6726) := by decide
theorem sp_12345 : (Int16.ofInt (12345)).toInt32 = (12345) := by decide
theorem lc_0 : Int64.ofNat ((0 : Fin 2) : Nat) = (0) := by decide
theorem lc_1 : Int64.ofNat ((1 : Fin 2) : Nat) = (1) := by decide
theorem in_m8 (x : Int32) : x + Int32.ofInt (-8) = x + (-8) := by rw [show Int32.ofInt (-8) = (-8) by decide]
theorem in_m1 (x : Int32) : x + Int32.ofInt (-1) = x + (-1) := by rw [show Int32.ofInt (-1) = (-1) by decide]
theorem in_1 (x : Int32) : x + Int32.ofInt (1) = x + (1) := by rw [show Int32.ofInt (1) = (1) by decide]
theorem in_6 (x : Int32) : x + Int32.ofInt (6) = x + (6) := by rw [show Int32.ofInt (6) = (6) by decide]
