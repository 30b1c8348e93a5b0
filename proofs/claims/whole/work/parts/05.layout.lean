/-! ===== which cell is what: the cells are numbered as the law makes them ===== -/
def sy_OEdge (E : sy_ET) (k : Nat) : Prop := sy_isO E 3 k ∧ sy_r E k 0 = some (k + 1) ∧ sy_isI E (k + 1) 12 ∧ sy_r E k 1 = some (k + 2) ∧ sy_isI E (k + 2) 6 ∧ sy_r E k 2 = some (k + 3) ∧ sy_isI E (k + 3) 6 ∧ sy_r E k 3 = some (k + 4) ∧ sy_isI E (k + 4) 6 ∧ sy_r E k 4 = some (k + 5) ∧ sy_isI E (k + 5) 6 ∧ sy_r E k 5 = some (k + 6) ∧ sy_isI E (k + 6) 6 ∧ sy_r E k 6 = some (k + 7) ∧ sy_isI E (k + 7) 3
theorem sy_OEdge_o {E : sy_ET} {k : Nat} (h : sy_OEdge E k) : sy_isO E 3 k := h.1
theorem sy_OEdge_r0 {E : sy_ET} {k : Nat} (h : sy_OEdge E k) : sy_r E k 0 = some (k + 1) := h.2.1
theorem sy_OEdge_a0 {E : sy_ET} {k : Nat} (h : sy_OEdge E k) : sy_isI E (k + 1) 12 := h.2.2.1
theorem sy_OEdge_r1 {E : sy_ET} {k : Nat} (h : sy_OEdge E k) : sy_r E k 1 = some (k + 2) := h.2.2.2.1
theorem sy_OEdge_a1 {E : sy_ET} {k : Nat} (h : sy_OEdge E k) : sy_isI E (k + 2) 6 := h.2.2.2.2.1
theorem sy_OEdge_r2 {E : sy_ET} {k : Nat} (h : sy_OEdge E k) : sy_r E k 2 = some (k + 3) := h.2.2.2.2.2.1
theorem sy_OEdge_a2 {E : sy_ET} {k : Nat} (h : sy_OEdge E k) : sy_isI E (k + 3) 6 := h.2.2.2.2.2.2.1
theorem sy_OEdge_r3 {E : sy_ET} {k : Nat} (h : sy_OEdge E k) : sy_r E k 3 = some (k + 4) := h.2.2.2.2.2.2.2.1
theorem sy_OEdge_a3 {E : sy_ET} {k : Nat} (h : sy_OEdge E k) : sy_isI E (k + 4) 6 := h.2.2.2.2.2.2.2.2.1
theorem sy_OEdge_r4 {E : sy_ET} {k : Nat} (h : sy_OEdge E k) : sy_r E k 4 = some (k + 5) := h.2.2.2.2.2.2.2.2.2.1
theorem sy_OEdge_a4 {E : sy_ET} {k : Nat} (h : sy_OEdge E k) : sy_isI E (k + 5) 6 := h.2.2.2.2.2.2.2.2.2.2.1
theorem sy_OEdge_r5 {E : sy_ET} {k : Nat} (h : sy_OEdge E k) : sy_r E k 5 = some (k + 6) := h.2.2.2.2.2.2.2.2.2.2.2.1
theorem sy_OEdge_a5 {E : sy_ET} {k : Nat} (h : sy_OEdge E k) : sy_isI E (k + 6) 6 := h.2.2.2.2.2.2.2.2.2.2.2.2.1
theorem sy_OEdge_r6 {E : sy_ET} {k : Nat} (h : sy_OEdge E k) : sy_r E k 6 = some (k + 7) := h.2.2.2.2.2.2.2.2.2.2.2.2.2.1
theorem sy_OEdge_a6 {E : sy_ET} {k : Nat} (h : sy_OEdge E k) : sy_isI E (k + 7) 3 := h.2.2.2.2.2.2.2.2.2.2.2.2.2.2
def sy_OSky (E : sy_ET) (k : Nat) : Prop := sy_isO E 9 k ∧ sy_r E k 0 = some 1 ∧ sy_OEdge E 1 ∧ sy_r E k 1 = some (k + 1) ∧ sy_isI E (k + 1) 6 ∧ sy_r E k 2 = some (k + 2) ∧ sy_isI E (k + 2) 6 ∧ sy_r E k 3 = some (k + 3) ∧ sy_isI E (k + 3) 6 ∧ sy_r E k 4 = some (k + 4) ∧ sy_isI E (k + 4) 6
theorem sy_OSky_o {E : sy_ET} {k : Nat} (h : sy_OSky E k) : sy_isO E 9 k := h.1
theorem sy_OSky_r0 {E : sy_ET} {k : Nat} (h : sy_OSky E k) : sy_r E k 0 = some 1 := h.2.1
theorem sy_OSky_a0 {E : sy_ET} {k : Nat} (h : sy_OSky E k) : sy_OEdge E 1 := h.2.2.1
theorem sy_OSky_r1 {E : sy_ET} {k : Nat} (h : sy_OSky E k) : sy_r E k 1 = some (k + 1) := h.2.2.2.1
theorem sy_OSky_a1 {E : sy_ET} {k : Nat} (h : sy_OSky E k) : sy_isI E (k + 1) 6 := h.2.2.2.2.1
theorem sy_OSky_r2 {E : sy_ET} {k : Nat} (h : sy_OSky E k) : sy_r E k 2 = some (k + 2) := h.2.2.2.2.2.1
theorem sy_OSky_a2 {E : sy_ET} {k : Nat} (h : sy_OSky E k) : sy_isI E (k + 2) 6 := h.2.2.2.2.2.2.1
theorem sy_OSky_r3 {E : sy_ET} {k : Nat} (h : sy_OSky E k) : sy_r E k 3 = some (k + 3) := h.2.2.2.2.2.2.2.1
theorem sy_OSky_a3 {E : sy_ET} {k : Nat} (h : sy_OSky E k) : sy_isI E (k + 3) 6 := h.2.2.2.2.2.2.2.2.1
theorem sy_OSky_r4 {E : sy_ET} {k : Nat} (h : sy_OSky E k) : sy_r E k 4 = some (k + 4) := h.2.2.2.2.2.2.2.2.2.1
theorem sy_OSky_a4 {E : sy_ET} {k : Nat} (h : sy_OSky E k) : sy_isI E (k + 4) 6 := h.2.2.2.2.2.2.2.2.2.2
def sy_Arr (E : sy_ET) (a n b : Nat) : Prop := sy_isY E a n ∧ ∀ i : Nat, i < n → sy_r E a i = some (b + 5 * i) ∧ sy_OSky E (b + 5 * i)
def sy_OBook (E : sy_ET) : Prop := sy_isO E 0 384 ∧ sy_r E 384 0 = some 385 ∧ sy_isI E 385 20 ∧ sy_r E 384 1 = some 386 ∧ sy_isI E 386 20 ∧ sy_r E 384 2 = some 387 ∧ sy_isZ E 387 20
theorem sy_OBook_o {E : sy_ET} (h : sy_OBook E) : sy_isO E 0 384 := h.1
theorem sy_OBook_r0 {E : sy_ET} (h : sy_OBook E) : sy_r E 384 0 = some 385 := h.2.1
theorem sy_OBook_a0 {E : sy_ET} (h : sy_OBook E) : sy_isI E 385 20 := h.2.2.1
theorem sy_OBook_r1 {E : sy_ET} (h : sy_OBook E) : sy_r E 384 1 = some 386 := h.2.2.2.1
theorem sy_OBook_a1 {E : sy_ET} (h : sy_OBook E) : sy_isI E 386 20 := h.2.2.2.2.1
theorem sy_OBook_r2 {E : sy_ET} (h : sy_OBook E) : sy_r E 384 2 = some 387 := h.2.2.2.2.2.1
theorem sy_OBook_a2 {E : sy_ET} (h : sy_OBook E) : sy_isZ E 387 20 := h.2.2.2.2.2.2
def sy_OChain (E : sy_ET) : Prop := sy_isO E 1 379 ∧ sy_r E 379 0 = some 1 ∧ sy_OEdge E 1 ∧ sy_r E 379 1 = some 380 ∧ sy_isZ E 380 6 ∧ sy_r E 379 2 = some 381 ∧ sy_isZ E 381 6 ∧ sy_r E 379 3 = some 382 ∧ sy_isI E 382 6 ∧ sy_r E 379 4 = some 383 ∧ sy_isI E 383 6
theorem sy_OChain_o {E : sy_ET} (h : sy_OChain E) : sy_isO E 1 379 := h.1
theorem sy_OChain_r0 {E : sy_ET} (h : sy_OChain E) : sy_r E 379 0 = some 1 := h.2.1
theorem sy_OChain_a0 {E : sy_ET} (h : sy_OChain E) : sy_OEdge E 1 := h.2.2.1
theorem sy_OChain_r1 {E : sy_ET} (h : sy_OChain E) : sy_r E 379 1 = some 380 := h.2.2.2.1
theorem sy_OChain_a1 {E : sy_ET} (h : sy_OChain E) : sy_isZ E 380 6 := h.2.2.2.2.1
theorem sy_OChain_r2 {E : sy_ET} (h : sy_OChain E) : sy_r E 379 2 = some 381 := h.2.2.2.2.2.1
theorem sy_OChain_a2 {E : sy_ET} (h : sy_OChain E) : sy_isZ E 381 6 := h.2.2.2.2.2.2.1
theorem sy_OChain_r3 {E : sy_ET} (h : sy_OChain E) : sy_r E 379 3 = some 382 := h.2.2.2.2.2.2.2.1
theorem sy_OChain_a3 {E : sy_ET} (h : sy_OChain E) : sy_isI E 382 6 := h.2.2.2.2.2.2.2.2.1
theorem sy_OChain_r4 {E : sy_ET} (h : sy_OChain E) : sy_r E 379 4 = some 383 := h.2.2.2.2.2.2.2.2.2.1
theorem sy_OChain_a4 {E : sy_ET} (h : sy_OChain E) : sy_isI E 383 6 := h.2.2.2.2.2.2.2.2.2.2
def sy_ODebts (E : sy_ET) : Prop := sy_isO E 2 388 ∧ sy_r E 388 0 = some 1 ∧ sy_OEdge E 1 ∧ sy_r E 388 1 = some 389 ∧ sy_isI E 389 64 ∧ sy_r E 388 2 = some 390 ∧ sy_isI E 390 64
theorem sy_ODebts_o {E : sy_ET} (h : sy_ODebts E) : sy_isO E 2 388 := h.1
theorem sy_ODebts_r0 {E : sy_ET} (h : sy_ODebts E) : sy_r E 388 0 = some 1 := h.2.1
theorem sy_ODebts_a0 {E : sy_ET} (h : sy_ODebts E) : sy_OEdge E 1 := h.2.2.1
theorem sy_ODebts_r1 {E : sy_ET} (h : sy_ODebts E) : sy_r E 388 1 = some 389 := h.2.2.2.1
theorem sy_ODebts_a1 {E : sy_ET} (h : sy_ODebts E) : sy_isI E 389 64 := h.2.2.2.2.1
theorem sy_ODebts_r2 {E : sy_ET} (h : sy_ODebts E) : sy_r E 388 2 = some 390 := h.2.2.2.2.2.1
theorem sy_ODebts_a2 {E : sy_ET} (h : sy_ODebts E) : sy_isI E 390 64 := h.2.2.2.2.2.2
def sy_OGame (E : sy_ET) : Prop := sy_isO E 4 391
theorem sy_OGame_o {E : sy_ET} (h : sy_OGame E) : sy_isO E 4 391 := h
def sy_OPast (E : sy_ET) : Prop := sy_isO E 5 55 ∧ sy_r E 55 0 = some 56 ∧ sy_Arr E 56 60 57
theorem sy_OPast_o {E : sy_ET} (h : sy_OPast E) : sy_isO E 5 55 := h.1
theorem sy_OPast_r0 {E : sy_ET} (h : sy_OPast E) : sy_r E 55 0 = some 56 := h.2.1
theorem sy_OPast_a0 {E : sy_ET} (h : sy_OPast E) : sy_Arr E 56 60 57 := h.2.2
def sy_OReader (E : sy_ET) : Prop := sy_isO E 6 35 ∧ sy_r E 35 0 = some 36 ∧ sy_isI E 36 250 ∧ sy_r E 35 1 = some 37 ∧ sy_OEdge E 37
theorem sy_OReader_o {E : sy_ET} (h : sy_OReader E) : sy_isO E 6 35 := h.1
theorem sy_OReader_r0 {E : sy_ET} (h : sy_OReader E) : sy_r E 35 0 = some 36 := h.2.1
theorem sy_OReader_a0 {E : sy_ET} (h : sy_OReader E) : sy_isI E 36 250 := h.2.2.1
theorem sy_OReader_r1 {E : sy_ET} (h : sy_OReader E) : sy_r E 35 1 = some 37 := h.2.2.2.1
theorem sy_OReader_a1 {E : sy_ET} (h : sy_OReader E) : sy_OEdge E 37 := h.2.2.2.2
def sy_OSeen (E : sy_ET) : Prop := sy_isO E 7 374 ∧ sy_r E 374 0 = some 1 ∧ sy_OEdge E 1 ∧ sy_r E 374 1 = some 9 ∧ sy_Arr E 9 5 10 ∧ sy_r E 374 2 = some 375 ∧ sy_isI E 375 5 ∧ sy_r E 374 3 = some 376 ∧ sy_isI E 376 6 ∧ sy_r E 374 5 = some 377 ∧ sy_isI E 377 5 ∧ sy_r E 374 6 = some 378 ∧ sy_isI E 378 5
theorem sy_OSeen_o {E : sy_ET} (h : sy_OSeen E) : sy_isO E 7 374 := h.1
theorem sy_OSeen_r0 {E : sy_ET} (h : sy_OSeen E) : sy_r E 374 0 = some 1 := h.2.1
theorem sy_OSeen_a0 {E : sy_ET} (h : sy_OSeen E) : sy_OEdge E 1 := h.2.2.1
theorem sy_OSeen_r1 {E : sy_ET} (h : sy_OSeen E) : sy_r E 374 1 = some 9 := h.2.2.2.1
theorem sy_OSeen_a1 {E : sy_ET} (h : sy_OSeen E) : sy_Arr E 9 5 10 := h.2.2.2.2.1
theorem sy_OSeen_r2 {E : sy_ET} (h : sy_OSeen E) : sy_r E 374 2 = some 375 := h.2.2.2.2.2.1
theorem sy_OSeen_a2 {E : sy_ET} (h : sy_OSeen E) : sy_isI E 375 5 := h.2.2.2.2.2.2.1
theorem sy_OSeen_r3 {E : sy_ET} (h : sy_OSeen E) : sy_r E 374 3 = some 376 := h.2.2.2.2.2.2.2.1
theorem sy_OSeen_a3 {E : sy_ET} (h : sy_OSeen E) : sy_isI E 376 6 := h.2.2.2.2.2.2.2.2.1
theorem sy_OSeen_r5 {E : sy_ET} (h : sy_OSeen E) : sy_r E 374 5 = some 377 := h.2.2.2.2.2.2.2.2.2.1
theorem sy_OSeen_a5 {E : sy_ET} (h : sy_OSeen E) : sy_isI E 377 5 := h.2.2.2.2.2.2.2.2.2.2.1
theorem sy_OSeen_r6 {E : sy_ET} (h : sy_OSeen E) : sy_r E 374 6 = some 378 := h.2.2.2.2.2.2.2.2.2.2.2.1
theorem sy_OSeen_a6 {E : sy_ET} (h : sy_OSeen E) : sy_isI E 378 5 := h.2.2.2.2.2.2.2.2.2.2.2.2
def sy_OShift (E : sy_ET) : Prop := sy_isO E 8 370 ∧ sy_r E 370 0 = some 1 ∧ sy_OEdge E 1 ∧ sy_r E 370 1 = some 9 ∧ sy_Arr E 9 5 10 ∧ sy_r E 370 2 = some 371 ∧ sy_isI E 371 5 ∧ sy_r E 370 3 = some 372 ∧ sy_isI E 372 6 ∧ sy_r E 370 5 = some 373 ∧ sy_isI E 373 5
theorem sy_OShift_o {E : sy_ET} (h : sy_OShift E) : sy_isO E 8 370 := h.1
theorem sy_OShift_r0 {E : sy_ET} (h : sy_OShift E) : sy_r E 370 0 = some 1 := h.2.1
theorem sy_OShift_a0 {E : sy_ET} (h : sy_OShift E) : sy_OEdge E 1 := h.2.2.1
theorem sy_OShift_r1 {E : sy_ET} (h : sy_OShift E) : sy_r E 370 1 = some 9 := h.2.2.2.1
theorem sy_OShift_a1 {E : sy_ET} (h : sy_OShift E) : sy_Arr E 9 5 10 := h.2.2.2.2.1
theorem sy_OShift_r2 {E : sy_ET} (h : sy_OShift E) : sy_r E 370 2 = some 371 := h.2.2.2.2.2.1
theorem sy_OShift_a2 {E : sy_ET} (h : sy_OShift E) : sy_isI E 371 5 := h.2.2.2.2.2.2.1
theorem sy_OShift_r3 {E : sy_ET} (h : sy_OShift E) : sy_r E 370 3 = some 372 := h.2.2.2.2.2.2.2.1
theorem sy_OShift_a3 {E : sy_ET} (h : sy_OShift E) : sy_isI E 372 6 := h.2.2.2.2.2.2.2.2.1
theorem sy_OShift_r5 {E : sy_ET} (h : sy_OShift E) : sy_r E 370 5 = some 373 := h.2.2.2.2.2.2.2.2.2.1
theorem sy_OShift_a5 {E : sy_ET} (h : sy_OShift E) : sy_isI E 373 5 := h.2.2.2.2.2.2.2.2.2.2
def sy_OTop (E : sy_ET) : Prop := sy_isO E 10 0 ∧ sy_r E 0 0 = some 1 ∧ sy_OEdge E 1 ∧ sy_r E 0 1 = some 35 ∧ sy_OReader E ∧ sy_r E 0 2 = some 45 ∧ sy_OSky E 45 ∧ sy_r E 0 3 = some 50 ∧ sy_OSky E 50 ∧ sy_r E 0 4 = some 55 ∧ sy_OPast E ∧ sy_r E 0 5 = some 357 ∧ sy_Arr E 357 2 358 ∧ sy_r E 0 6 = some 368 ∧ sy_isZ E 368 2 ∧ sy_r E 0 7 = some 369 ∧ sy_isI E 369 2 ∧ sy_r E 0 8 = some 370 ∧ sy_OShift E ∧ sy_r E 0 9 = some 374 ∧ sy_OSeen E ∧ sy_r E 0 10 = some 379 ∧ sy_OChain E ∧ sy_r E 0 11 = some 384 ∧ sy_OBook E ∧ sy_r E 0 12 = some 388 ∧ sy_ODebts E ∧ sy_r E 0 13 = some 391 ∧ sy_OGame E
theorem sy_OTop_o {E : sy_ET} (h : sy_OTop E) : sy_isO E 10 0 := h.1
theorem sy_OTop_r0 {E : sy_ET} (h : sy_OTop E) : sy_r E 0 0 = some 1 := h.2.1
theorem sy_OTop_a0 {E : sy_ET} (h : sy_OTop E) : sy_OEdge E 1 := h.2.2.1
theorem sy_OTop_r1 {E : sy_ET} (h : sy_OTop E) : sy_r E 0 1 = some 35 := h.2.2.2.1
theorem sy_OTop_a1 {E : sy_ET} (h : sy_OTop E) : sy_OReader E := h.2.2.2.2.1
theorem sy_OTop_r2 {E : sy_ET} (h : sy_OTop E) : sy_r E 0 2 = some 45 := h.2.2.2.2.2.1
theorem sy_OTop_a2 {E : sy_ET} (h : sy_OTop E) : sy_OSky E 45 := h.2.2.2.2.2.2.1
theorem sy_OTop_r3 {E : sy_ET} (h : sy_OTop E) : sy_r E 0 3 = some 50 := h.2.2.2.2.2.2.2.1
theorem sy_OTop_a3 {E : sy_ET} (h : sy_OTop E) : sy_OSky E 50 := h.2.2.2.2.2.2.2.2.1
theorem sy_OTop_r4 {E : sy_ET} (h : sy_OTop E) : sy_r E 0 4 = some 55 := h.2.2.2.2.2.2.2.2.2.1
theorem sy_OTop_a4 {E : sy_ET} (h : sy_OTop E) : sy_OPast E := h.2.2.2.2.2.2.2.2.2.2.1
theorem sy_OTop_r5 {E : sy_ET} (h : sy_OTop E) : sy_r E 0 5 = some 357 := h.2.2.2.2.2.2.2.2.2.2.2.1
theorem sy_OTop_a5 {E : sy_ET} (h : sy_OTop E) : sy_Arr E 357 2 358 := h.2.2.2.2.2.2.2.2.2.2.2.2.1
theorem sy_OTop_r6 {E : sy_ET} (h : sy_OTop E) : sy_r E 0 6 = some 368 := h.2.2.2.2.2.2.2.2.2.2.2.2.2.1
theorem sy_OTop_a6 {E : sy_ET} (h : sy_OTop E) : sy_isZ E 368 2 := h.2.2.2.2.2.2.2.2.2.2.2.2.2.2.1
theorem sy_OTop_r7 {E : sy_ET} (h : sy_OTop E) : sy_r E 0 7 = some 369 := h.2.2.2.2.2.2.2.2.2.2.2.2.2.2.2.1
theorem sy_OTop_a7 {E : sy_ET} (h : sy_OTop E) : sy_isI E 369 2 := h.2.2.2.2.2.2.2.2.2.2.2.2.2.2.2.2.1
theorem sy_OTop_r8 {E : sy_ET} (h : sy_OTop E) : sy_r E 0 8 = some 370 := h.2.2.2.2.2.2.2.2.2.2.2.2.2.2.2.2.2.1
theorem sy_OTop_a8 {E : sy_ET} (h : sy_OTop E) : sy_OShift E := h.2.2.2.2.2.2.2.2.2.2.2.2.2.2.2.2.2.2.1
theorem sy_OTop_r9 {E : sy_ET} (h : sy_OTop E) : sy_r E 0 9 = some 374 := h.2.2.2.2.2.2.2.2.2.2.2.2.2.2.2.2.2.2.2.1
theorem sy_OTop_a9 {E : sy_ET} (h : sy_OTop E) : sy_OSeen E := h.2.2.2.2.2.2.2.2.2.2.2.2.2.2.2.2.2.2.2.2.1
theorem sy_OTop_r10 {E : sy_ET} (h : sy_OTop E) : sy_r E 0 10 = some 379 := h.2.2.2.2.2.2.2.2.2.2.2.2.2.2.2.2.2.2.2.2.2.1
theorem sy_OTop_a10 {E : sy_ET} (h : sy_OTop E) : sy_OChain E := h.2.2.2.2.2.2.2.2.2.2.2.2.2.2.2.2.2.2.2.2.2.2.1
theorem sy_OTop_r11 {E : sy_ET} (h : sy_OTop E) : sy_r E 0 11 = some 384 := h.2.2.2.2.2.2.2.2.2.2.2.2.2.2.2.2.2.2.2.2.2.2.2.1
theorem sy_OTop_a11 {E : sy_ET} (h : sy_OTop E) : sy_OBook E := h.2.2.2.2.2.2.2.2.2.2.2.2.2.2.2.2.2.2.2.2.2.2.2.2.1
theorem sy_OTop_r12 {E : sy_ET} (h : sy_OTop E) : sy_r E 0 12 = some 388 := h.2.2.2.2.2.2.2.2.2.2.2.2.2.2.2.2.2.2.2.2.2.2.2.2.2.1
theorem sy_OTop_a12 {E : sy_ET} (h : sy_OTop E) : sy_ODebts E := h.2.2.2.2.2.2.2.2.2.2.2.2.2.2.2.2.2.2.2.2.2.2.2.2.2.2.1
theorem sy_OTop_r13 {E : sy_ET} (h : sy_OTop E) : sy_r E 0 13 = some 391 := h.2.2.2.2.2.2.2.2.2.2.2.2.2.2.2.2.2.2.2.2.2.2.2.2.2.2.2.1
theorem sy_OTop_a13 {E : sy_ET} (h : sy_OTop E) : sy_OGame E := h.2.2.2.2.2.2.2.2.2.2.2.2.2.2.2.2.2.2.2.2.2.2.2.2.2.2.2.2
def sy_OModel (E : sy_ET) : Prop := sy_isO E 11 392 ∧ sy_r E 392 1 = some 393 ∧ sy_isI E 393 250 ∧ sy_r E 392 9 = some 394 ∧ sy_isI E 394 12 ∧ sy_r E 392 11 = some 395 ∧ sy_isI E 395 30 ∧ sy_r E 392 12 = some 396 ∧ sy_isI E 396 3 ∧ sy_r E 392 18 = some 397 ∧ sy_isI E 397 12 ∧ sy_r E 392 20 = some 398 ∧ sy_isI E 398 30 ∧ sy_r E 392 21 = some 399 ∧ sy_isI E 399 3 ∧ sy_r E 392 22 = some 400 ∧ sy_isI E 400 31 ∧ sy_r E 392 23 = some 401 ∧ sy_isI E 401 31 ∧ sy_r E 392 24 = some 402 ∧ sy_isI E 402 62 ∧ sy_r E 392 25 = some 403 ∧ sy_isZ E 403 2 ∧ sy_r E 392 27 = some 404 ∧ sy_isI E 404 1860 ∧ sy_r E 392 29 = some 405 ∧ sy_isI E 405 5 ∧ sy_r E 392 31 = some 406 ∧ sy_isI E 406 60 ∧ sy_r E 392 32 = some 407 ∧ sy_isI E 407 5 ∧ sy_r E 392 33 = some 408 ∧ sy_isI E 408 6 ∧ sy_r E 392 34 = some 409 ∧ sy_isI E 409 64
theorem sy_OModel_o {E : sy_ET} (h : sy_OModel E) : sy_isO E 11 392 := h.1
theorem sy_OModel_r1 {E : sy_ET} (h : sy_OModel E) : sy_r E 392 1 = some 393 := h.2.1
theorem sy_OModel_a1 {E : sy_ET} (h : sy_OModel E) : sy_isI E 393 250 := h.2.2.1
theorem sy_OModel_r9 {E : sy_ET} (h : sy_OModel E) : sy_r E 392 9 = some 394 := h.2.2.2.1
theorem sy_OModel_a9 {E : sy_ET} (h : sy_OModel E) : sy_isI E 394 12 := h.2.2.2.2.1
theorem sy_OModel_r11 {E : sy_ET} (h : sy_OModel E) : sy_r E 392 11 = some 395 := h.2.2.2.2.2.1
theorem sy_OModel_a11 {E : sy_ET} (h : sy_OModel E) : sy_isI E 395 30 := h.2.2.2.2.2.2.1
theorem sy_OModel_r12 {E : sy_ET} (h : sy_OModel E) : sy_r E 392 12 = some 396 := h.2.2.2.2.2.2.2.1
theorem sy_OModel_a12 {E : sy_ET} (h : sy_OModel E) : sy_isI E 396 3 := h.2.2.2.2.2.2.2.2.1
theorem sy_OModel_r18 {E : sy_ET} (h : sy_OModel E) : sy_r E 392 18 = some 397 := h.2.2.2.2.2.2.2.2.2.1
theorem sy_OModel_a18 {E : sy_ET} (h : sy_OModel E) : sy_isI E 397 12 := h.2.2.2.2.2.2.2.2.2.2.1
theorem sy_OModel_r20 {E : sy_ET} (h : sy_OModel E) : sy_r E 392 20 = some 398 := h.2.2.2.2.2.2.2.2.2.2.2.1
theorem sy_OModel_a20 {E : sy_ET} (h : sy_OModel E) : sy_isI E 398 30 := h.2.2.2.2.2.2.2.2.2.2.2.2.1
theorem sy_OModel_r21 {E : sy_ET} (h : sy_OModel E) : sy_r E 392 21 = some 399 := h.2.2.2.2.2.2.2.2.2.2.2.2.2.1
theorem sy_OModel_a21 {E : sy_ET} (h : sy_OModel E) : sy_isI E 399 3 := h.2.2.2.2.2.2.2.2.2.2.2.2.2.2.1
theorem sy_OModel_r22 {E : sy_ET} (h : sy_OModel E) : sy_r E 392 22 = some 400 := h.2.2.2.2.2.2.2.2.2.2.2.2.2.2.2.1
theorem sy_OModel_a22 {E : sy_ET} (h : sy_OModel E) : sy_isI E 400 31 := h.2.2.2.2.2.2.2.2.2.2.2.2.2.2.2.2.1
theorem sy_OModel_r23 {E : sy_ET} (h : sy_OModel E) : sy_r E 392 23 = some 401 := h.2.2.2.2.2.2.2.2.2.2.2.2.2.2.2.2.2.1
theorem sy_OModel_a23 {E : sy_ET} (h : sy_OModel E) : sy_isI E 401 31 := h.2.2.2.2.2.2.2.2.2.2.2.2.2.2.2.2.2.2.1
theorem sy_OModel_r24 {E : sy_ET} (h : sy_OModel E) : sy_r E 392 24 = some 402 := h.2.2.2.2.2.2.2.2.2.2.2.2.2.2.2.2.2.2.2.1
theorem sy_OModel_a24 {E : sy_ET} (h : sy_OModel E) : sy_isI E 402 62 := h.2.2.2.2.2.2.2.2.2.2.2.2.2.2.2.2.2.2.2.2.1
theorem sy_OModel_r25 {E : sy_ET} (h : sy_OModel E) : sy_r E 392 25 = some 403 := h.2.2.2.2.2.2.2.2.2.2.2.2.2.2.2.2.2.2.2.2.2.1
theorem sy_OModel_a25 {E : sy_ET} (h : sy_OModel E) : sy_isZ E 403 2 := h.2.2.2.2.2.2.2.2.2.2.2.2.2.2.2.2.2.2.2.2.2.2.1
theorem sy_OModel_r27 {E : sy_ET} (h : sy_OModel E) : sy_r E 392 27 = some 404 := h.2.2.2.2.2.2.2.2.2.2.2.2.2.2.2.2.2.2.2.2.2.2.2.1
theorem sy_OModel_a27 {E : sy_ET} (h : sy_OModel E) : sy_isI E 404 1860 := h.2.2.2.2.2.2.2.2.2.2.2.2.2.2.2.2.2.2.2.2.2.2.2.2.1
theorem sy_OModel_r29 {E : sy_ET} (h : sy_OModel E) : sy_r E 392 29 = some 405 := h.2.2.2.2.2.2.2.2.2.2.2.2.2.2.2.2.2.2.2.2.2.2.2.2.2.1
theorem sy_OModel_a29 {E : sy_ET} (h : sy_OModel E) : sy_isI E 405 5 := h.2.2.2.2.2.2.2.2.2.2.2.2.2.2.2.2.2.2.2.2.2.2.2.2.2.2.1
theorem sy_OModel_r31 {E : sy_ET} (h : sy_OModel E) : sy_r E 392 31 = some 406 := h.2.2.2.2.2.2.2.2.2.2.2.2.2.2.2.2.2.2.2.2.2.2.2.2.2.2.2.1
theorem sy_OModel_a31 {E : sy_ET} (h : sy_OModel E) : sy_isI E 406 60 := h.2.2.2.2.2.2.2.2.2.2.2.2.2.2.2.2.2.2.2.2.2.2.2.2.2.2.2.2.1
theorem sy_OModel_r32 {E : sy_ET} (h : sy_OModel E) : sy_r E 392 32 = some 407 := h.2.2.2.2.2.2.2.2.2.2.2.2.2.2.2.2.2.2.2.2.2.2.2.2.2.2.2.2.2.1
theorem sy_OModel_a32 {E : sy_ET} (h : sy_OModel E) : sy_isI E 407 5 := h.2.2.2.2.2.2.2.2.2.2.2.2.2.2.2.2.2.2.2.2.2.2.2.2.2.2.2.2.2.2.1
theorem sy_OModel_r33 {E : sy_ET} (h : sy_OModel E) : sy_r E 392 33 = some 408 := h.2.2.2.2.2.2.2.2.2.2.2.2.2.2.2.2.2.2.2.2.2.2.2.2.2.2.2.2.2.2.2.1
theorem sy_OModel_a33 {E : sy_ET} (h : sy_OModel E) : sy_isI E 408 6 := h.2.2.2.2.2.2.2.2.2.2.2.2.2.2.2.2.2.2.2.2.2.2.2.2.2.2.2.2.2.2.2.2.1
theorem sy_OModel_r34 {E : sy_ET} (h : sy_OModel E) : sy_r E 392 34 = some 409 := h.2.2.2.2.2.2.2.2.2.2.2.2.2.2.2.2.2.2.2.2.2.2.2.2.2.2.2.2.2.2.2.2.2.1
theorem sy_OModel_a34 {E : sy_ET} (h : sy_OModel E) : sy_isI E 409 64 := h.2.2.2.2.2.2.2.2.2.2.2.2.2.2.2.2.2.2.2.2.2.2.2.2.2.2.2.2.2.2.2.2.2.2
