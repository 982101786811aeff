def mL : MD := (x, code, 4, some .boolean)
def K_L_law_18 (scr : ScA)  (x3 : Int32) (σ : Nat → Nat → Int32) (P : Int32 → (Nat → Nat → Int32) → Prop) : Prop := XA scr 11 mL 172 4705 18 [some (.retAddr 4), some (.ref 0), some (.ref 136), some (.int x3)] [] (hs σ) (pI P)
def K_L_law_197 (scr : ScA)  (x3 : Int32) (y0 : Int32) (σ : Nat → Nat → Int32) (P : Int32 → (Nat → Nat → Int32) → Prop) : Prop := XA scr 11 mL 172 4705 197 [some (.retAddr 4), some (.ref 0), some (.ref 136), some (.int x3)] [.int y0] (hs σ) (pI P)
def K_L_law_206 (scr : ScA)  (x3 : Int32) (y0 : Int32) (y1 : Int32) (σ : Nat → Nat → Int32) (P : Int32 → (Nat → Nat → Int32) → Prop) : Prop := XA scr 11 mL 172 4705 206 [some (.retAddr 4), some (.ref 0), some (.ref 136), some (.int x3)] [.int y1, .int y0] (hs σ) (pI P)
def K_L_law_215 (scr : ScA)  (x3 : Int32) (y0 : Int32) (σ : Nat → Nat → Int32) (P : Int32 → (Nat → Nat → Int32) → Prop) : Prop := XA scr 11 mL 172 4705 215 [some (.retAddr 4), some (.ref 0), some (.ref 136), some (.int x3)] [.int y0] (hs σ) (pI P)
def K_L_law_219 (scr : ScA)  (x3 : Int32) (y0 : Int32) (y1 : Int32) (σ : Nat → Nat → Int32) (P : Int32 → (Nat → Nat → Int32) → Prop) : Prop := XA scr 11 mL 172 4705 219 [some (.retAddr 4), some (.ref 0), some (.ref 136), some (.int x3)] [.int y1, .int y0] (hs σ) (pI P)
def K_L_law_228 (scr : ScA)  (x3 : Int32) (y0 : Int32) (σ : Nat → Nat → Int32) (P : Int32 → (Nat → Nat → Int32) → Prop) : Prop := XA scr 11 mL 172 4705 228 [some (.retAddr 4), some (.ref 0), some (.ref 136), some (.int x3)] [.int y0] (hs σ) (pI P)
def K_L_law_232 (scr : ScA)  (x3 : Int32) (y0 : Int32) (y1 : Int32) (σ : Nat → Nat → Int32) (P : Int32 → (Nat → Nat → Int32) → Prop) : Prop := XA scr 11 mL 172 4705 232 [some (.retAddr 4), some (.ref 0), some (.ref 136), some (.int x3)] [.int y1, .int y0] (hs σ) (pI P)
def K_L_law_241 (scr : ScA)  (x3 : Int32) (y0 : Int32) (σ : Nat → Nat → Int32) (P : Int32 → (Nat → Nat → Int32) → Prop) : Prop := XA scr 11 mL 172 4705 241 [some (.retAddr 4), some (.ref 0), some (.ref 136), some (.int x3)] [.int y0] (hs σ) (pI P)
def K_L_law_245 (scr : ScA)  (x3 : Int32) (y0 : Int32) (y1 : Int32) (σ : Nat → Nat → Int32) (P : Int32 → (Nat → Nat → Int32) → Prop) : Prop := XA scr 11 mL 172 4705 245 [some (.retAddr 4), some (.ref 0), some (.ref 136), some (.int x3)] [.int y1, .int y0] (hs σ) (pI P)
def K_L_law_264 (scr : ScA)  (x3 : Int32) (y0 : Int32) (σ : Nat → Nat → Int32) (P : Int32 → (Nat → Nat → Int32) → Prop) : Prop := XA scr 11 mL 172 4705 264 [some (.retAddr 4), some (.ref 0), some (.ref 136), some (.int x3)] [.int y0] (hs σ) (pI P)
def K_L_law_278 (scr : ScA)  (x3 : Int32) (y0 : Int32) (y1 : Int32) (σ : Nat → Nat → Int32) (P : Int32 → (Nat → Nat → Int32) → Prop) : Prop := XA scr 11 mL 172 4705 278 [some (.retAddr 4), some (.ref 0), some (.ref 136), some (.int x3)] [.int y1, .int y0] (hs σ) (pI P)
def K_L_law_302 (scr : ScA)  (x3 : Int32) (y0 : Int32) (σ : Nat → Nat → Int32) (P : Int32 → (Nat → Nat → Int32) → Prop) : Prop := XA scr 11 mL 172 4705 302 [some (.retAddr 4), some (.ref 0), some (.ref 136), some (.int x3)] [.int y0] (hs σ) (pI P)
def K_L_law_321 (scr : ScA)  (x3 : Int32) (y0 : Int32) (y1 : Int32) (σ : Nat → Nat → Int32) (P : Int32 → (Nat → Nat → Int32) → Prop) : Prop := XA scr 11 mL 172 4705 321 [some (.retAddr 4), some (.ref 0), some (.ref 136), some (.int x3)] [.int y1, .int y0] (hs σ) (pI P)
def K_L_law_330 (scr : ScA)  (x3 : Int32) (y0 : Int32) (σ : Nat → Nat → Int32) (P : Int32 → (Nat → Nat → Int32) → Prop) : Prop := XA scr 11 mL 172 4705 330 [some (.retAddr 4), some (.ref 0), some (.ref 136), some (.int x3)] [.int y0] (hs σ) (pI P)
def K_L_law_334 (scr : ScA)  (x3 : Int32) (y0 : Int32) (y1 : Int32) (σ : Nat → Nat → Int32) (P : Int32 → (Nat → Nat → Int32) → Prop) : Prop := XA scr 11 mL 172 4705 334 [some (.retAddr 4), some (.ref 0), some (.ref 136), some (.int x3)] [.int y1, .int y0] (hs σ) (pI P)
def K_L_law_348 (scr : ScA)  (x3 : Int32) (y0 : Int32) (σ : Nat → Nat → Int32) (P : Int32 → (Nat → Nat → Int32) → Prop) : Prop := XA scr 11 mL 172 4705 348 [some (.retAddr 4), some (.ref 0), some (.ref 136), some (.int x3)] [.int y0] (hs σ) (pI P)
def K_L_law_357 (scr : ScA)  (x3 : Int32) (y0 : Int32) (y1 : Int32) (σ : Nat → Nat → Int32) (P : Int32 → (Nat → Nat → Int32) → Prop) : Prop := XA scr 11 mL 172 4705 357 [some (.retAddr 4), some (.ref 0), some (.ref 136), some (.int x3)] [.int y1, .int y0] (hs σ) (pI P)
def K_L_law_381 (scr : ScA)  (x3 : Int32) (y0 : Int32) (σ : Nat → Nat → Int32) (P : Int32 → (Nat → Nat → Int32) → Prop) : Prop := XA scr 11 mL 172 4705 381 [some (.retAddr 4), some (.ref 0), some (.ref 136), some (.int x3)] [.int y0] (hs σ) (pI P)
def K_L_law_400 (scr : ScA)  (x3 : Int32) (y0 : Int32) (y1 : Int32) (σ : Nat → Nat → Int32) (P : Int32 → (Nat → Nat → Int32) → Prop) : Prop := XA scr 11 mL 172 4705 400 [some (.retAddr 4), some (.ref 0), some (.ref 136), some (.int x3)] [.int y1, .int y0] (hs σ) (pI P)
def K_L_law_419 (scr : ScA)  (x3 : Int32) (y0 : Int32) (σ : Nat → Nat → Int32) (P : Int32 → (Nat → Nat → Int32) → Prop) : Prop := XA scr 11 mL 172 4705 419 [some (.retAddr 4), some (.ref 0), some (.ref 136), some (.int x3)] [.int y0] (hs σ) (pI P)
def K_L_law_433 (scr : ScA)  (x3 : Int32) (y0 : Int32) (y1 : Int32) (σ : Nat → Nat → Int32) (P : Int32 → (Nat → Nat → Int32) → Prop) : Prop := XA scr 11 mL 172 4705 433 [some (.retAddr 4), some (.ref 0), some (.ref 136), some (.int x3)] [.int y1, .int y0] (hs σ) (pI P)
def K_L_law_452 (scr : ScA)  (x3 : Int32) (y0 : Int32) (σ : Nat → Nat → Int32) (P : Int32 → (Nat → Nat → Int32) → Prop) : Prop := XA scr 11 mL 172 4705 452 [some (.retAddr 4), some (.ref 0), some (.ref 136), some (.int x3)] [.int y0] (hs σ) (pI P)
def K_L_law_466 (scr : ScA)  (x3 : Int32) (y0 : Int32) (y1 : Int32) (σ : Nat → Nat → Int32) (P : Int32 → (Nat → Nat → Int32) → Prop) : Prop := XA scr 11 mL 172 4705 466 [some (.retAddr 4), some (.ref 0), some (.ref 136), some (.int x3)] [.int y1, .int y0] (hs σ) (pI P)
def K_L_law_480 (scr : ScA)  (x3 : Int32) (y0 : Int32) (σ : Nat → Nat → Int32) (P : Int32 → (Nat → Nat → Int32) → Prop) : Prop := XA scr 11 mL 172 4705 480 [some (.retAddr 4), some (.ref 0), some (.ref 136), some (.int x3)] [.int y0] (hs σ) (pI P)
def K_L_law_489 (scr : ScA)  (x3 : Int32) (y0 : Int32) (y1 : Int32) (σ : Nat → Nat → Int32) (P : Int32 → (Nat → Nat → Int32) → Prop) : Prop := XA scr 11 mL 172 4705 489 [some (.retAddr 4), some (.ref 0), some (.ref 136), some (.int x3)] [.int y1, .int y0] (hs σ) (pI P)
def K_L_law_503 (scr : ScA)  (x3 : Int32) (y0 : Int32) (σ : Nat → Nat → Int32) (P : Int32 → (Nat → Nat → Int32) → Prop) : Prop := XA scr 11 mL 172 4705 503 [some (.retAddr 4), some (.ref 0), some (.ref 136), some (.int x3)] [.int y0] (hs σ) (pI P)
def K_L_law_512 (scr : ScA)  (x3 : Int32) (y0 : Int32) (y1 : Int32) (σ : Nat → Nat → Int32) (P : Int32 → (Nat → Nat → Int32) → Prop) : Prop := XA scr 11 mL 172 4705 512 [some (.retAddr 4), some (.ref 0), some (.ref 136), some (.int x3)] [.int y1, .int y0] (hs σ) (pI P)
def K_L_law_526 (scr : ScA)  (x3 : Int32) (y0 : Int32) (σ : Nat → Nat → Int32) (P : Int32 → (Nat → Nat → Int32) → Prop) : Prop := XA scr 11 mL 172 4705 526 [some (.retAddr 4), some (.ref 0), some (.ref 136), some (.int x3)] [.int y0] (hs σ) (pI P)
def K_L_law_535 (scr : ScA)  (x3 : Int32) (y0 : Int32) (y1 : Int32) (σ : Nat → Nat → Int32) (P : Int32 → (Nat → Nat → Int32) → Prop) : Prop := XA scr 11 mL 172 4705 535 [some (.retAddr 4), some (.ref 0), some (.ref 136), some (.int x3)] [.int y1, .int y0] (hs σ) (pI P)
def K_L_law_544 (scr : ScA)  (x3 : Int32) (y0 : Int32) (σ : Nat → Nat → Int32) (P : Int32 → (Nat → Nat → Int32) → Prop) : Prop := XA scr 11 mL 172 4705 544 [some (.retAddr 4), some (.ref 0), some (.ref 136), some (.int x3)] [.int y0] (hs σ) (pI P)
def K_L_law_548 (scr : ScA)  (x3 : Int32) (y0 : Int32) (y1 : Int32) (σ : Nat → Nat → Int32) (P : Int32 → (Nat → Nat → Int32) → Prop) : Prop := XA scr 11 mL 172 4705 548 [some (.retAddr 4), some (.ref 0), some (.ref 136), some (.int x3)] [.int y1, .int y0] (hs σ) (pI P)
def K_L_law_557 (scr : ScA)  (x3 : Int32) (y0 : Int32) (σ : Nat → Nat → Int32) (P : Int32 → (Nat → Nat → Int32) → Prop) : Prop := XA scr 11 mL 172 4705 557 [some (.retAddr 4), some (.ref 0), some (.ref 136), some (.int x3)] [.int y0] (hs σ) (pI P)
def K_L_law_561 (scr : ScA)  (x3 : Int32) (y0 : Int32) (y1 : Int32) (σ : Nat → Nat → Int32) (P : Int32 → (Nat → Nat → Int32) → Prop) : Prop := XA scr 11 mL 172 4705 561 [some (.retAddr 4), some (.ref 0), some (.ref 136), some (.int x3)] [.int y1, .int y0] (hs σ) (pI P)
def K_L_law_575 (scr : ScA)  (x3 : Int32) (y0 : Int32) (σ : Nat → Nat → Int32) (P : Int32 → (Nat → Nat → Int32) → Prop) : Prop := XA scr 11 mL 172 4705 575 [some (.retAddr 4), some (.ref 0), some (.ref 136), some (.int x3)] [.int y0] (hs σ) (pI P)
def K_L_law_584 (scr : ScA)  (x3 : Int32) (y0 : Int32) (y1 : Int32) (σ : Nat → Nat → Int32) (P : Int32 → (Nat → Nat → Int32) → Prop) : Prop := XA scr 11 mL 172 4705 584 [some (.retAddr 4), some (.ref 0), some (.ref 136), some (.int x3)] [.int y1, .int y0] (hs σ) (pI P)
def K_L_law_603 (scr : ScA)  (x3 : Int32) (y0 : Int32) (σ : Nat → Nat → Int32) (P : Int32 → (Nat → Nat → Int32) → Prop) : Prop := XA scr 11 mL 172 4705 603 [some (.retAddr 4), some (.ref 0), some (.ref 136), some (.int x3)] [.int y0] (hs σ) (pI P)
def K_L_law_617 (scr : ScA)  (x3 : Int32) (y0 : Int32) (y1 : Int32) (σ : Nat → Nat → Int32) (P : Int32 → (Nat → Nat → Int32) → Prop) : Prop := XA scr 11 mL 172 4705 617 [some (.retAddr 4), some (.ref 0), some (.ref 136), some (.int x3)] [.int y1, .int y0] (hs σ) (pI P)
def K_L_law_631 (scr : ScA)  (x3 : Int32) (y0 : Int32) (σ : Nat → Nat → Int32) (P : Int32 → (Nat → Nat → Int32) → Prop) : Prop := XA scr 11 mL 172 4705 631 [some (.retAddr 4), some (.ref 0), some (.ref 136), some (.int x3)] [.int y0] (hs σ) (pI P)
def K_L_law_640 (scr : ScA)  (x3 : Int32) (y0 : Int32) (y1 : Int32) (σ : Nat → Nat → Int32) (P : Int32 → (Nat → Nat → Int32) → Prop) : Prop := XA scr 11 mL 172 4705 640 [some (.retAddr 4), some (.ref 0), some (.ref 136), some (.int x3)] [.int y1, .int y0] (hs σ) (pI P)
def K_L_law_654 (scr : ScA)  (x3 : Int32) (y0 : Int32) (σ : Nat → Nat → Int32) (P : Int32 → (Nat → Nat → Int32) → Prop) : Prop := XA scr 11 mL 172 4705 654 [some (.retAddr 4), some (.ref 0), some (.ref 136), some (.int x3)] [.int y0] (hs σ) (pI P)
def K_L_law_663 (scr : ScA)  (x3 : Int32) (y0 : Int32) (y1 : Int32) (σ : Nat → Nat → Int32) (P : Int32 → (Nat → Nat → Int32) → Prop) : Prop := XA scr 11 mL 172 4705 663 [some (.retAddr 4), some (.ref 0), some (.ref 136), some (.int x3)] [.int y1, .int y0] (hs σ) (pI P)
def K_L_law_687 (scr : ScA)  (x3 : Int32) (y0 : Int32) (σ : Nat → Nat → Int32) (P : Int32 → (Nat → Nat → Int32) → Prop) : Prop := XA scr 11 mL 172 4705 687 [some (.retAddr 4), some (.ref 0), some (.ref 136), some (.int x3)] [.int y0] (hs σ) (pI P)
def K_L_law_706 (scr : ScA)  (x3 : Int32) (y0 : Int32) (y1 : Int32) (σ : Nat → Nat → Int32) (P : Int32 → (Nat → Nat → Int32) → Prop) : Prop := XA scr 11 mL 172 4705 706 [some (.retAddr 4), some (.ref 0), some (.ref 136), some (.int x3)] [.int y1, .int y0] (hs σ) (pI P)
def K_L_law_715 (scr : ScA)  (x3 : Int32) (y0 : Int32) (σ : Nat → Nat → Int32) (P : Int32 → (Nat → Nat → Int32) → Prop) : Prop := XA scr 11 mL 172 4705 715 [some (.retAddr 4), some (.ref 0), some (.ref 136), some (.int x3)] [.int y0] (hs σ) (pI P)
def K_L_law_719 (scr : ScA)  (x3 : Int32) (y0 : Int32) (y1 : Int32) (σ : Nat → Nat → Int32) (P : Int32 → (Nat → Nat → Int32) → Prop) : Prop := XA scr 11 mL 172 4705 719 [some (.retAddr 4), some (.ref 0), some (.ref 136), some (.int x3)] [.int y1, .int y0] (hs σ) (pI P)
def K_L_law_728 (scr : ScA)  (x3 : Int32) (y0 : Int32) (σ : Nat → Nat → Int32) (P : Int32 → (Nat → Nat → Int32) → Prop) : Prop := XA scr 11 mL 172 4705 728 [some (.retAddr 4), some (.ref 0), some (.ref 136), some (.int x3)] [.int y0] (hs σ) (pI P)
def K_L_law_732 (scr : ScA)  (x3 : Int32) (y0 : Int32) (y1 : Int32) (σ : Nat → Nat → Int32) (P : Int32 → (Nat → Nat → Int32) → Prop) : Prop := XA scr 11 mL 172 4705 732 [some (.retAddr 4), some (.ref 0), some (.ref 136), some (.int x3)] [.int y1, .int y0] (hs σ) (pI P)
def K_L_law_751 (scr : ScA)  (x3 : Int32) (y0 : Int32) (σ : Nat → Nat → Int32) (P : Int32 → (Nat → Nat → Int32) → Prop) : Prop := XA scr 11 mL 172 4705 751 [some (.retAddr 4), some (.ref 0), some (.ref 136), some (.int x3)] [.int y0] (hs σ) (pI P)
def K_L_law_765 (scr : ScA)  (x3 : Int32) (y0 : Int32) (y1 : Int32) (σ : Nat → Nat → Int32) (P : Int32 → (Nat → Nat → Int32) → Prop) : Prop := XA scr 11 mL 172 4705 765 [some (.retAddr 4), some (.ref 0), some (.ref 136), some (.int x3)] [.int y1, .int y0] (hs σ) (pI P)
def K_L_law_779 (scr : ScA)  (x3 : Int32) (y0 : Int32) (σ : Nat → Nat → Int32) (P : Int32 → (Nat → Nat → Int32) → Prop) : Prop := XA scr 11 mL 172 4705 779 [some (.retAddr 4), some (.ref 0), some (.ref 136), some (.int x3)] [.int y0] (hs σ) (pI P)
def K_L_law_788 (scr : ScA)  (x3 : Int32) (y0 : Int32) (y1 : Int32) (σ : Nat → Nat → Int32) (P : Int32 → (Nat → Nat → Int32) → Prop) : Prop := XA scr 11 mL 172 4705 788 [some (.retAddr 4), some (.ref 0), some (.ref 136), some (.int x3)] [.int y1, .int y0] (hs σ) (pI P)
def K_L_law_812 (scr : ScA)  (x3 : Int32) (y0 : Int64) (σ : Nat → Nat → Int32) (P : Int32 → (Nat → Nat → Int32) → Prop) : Prop := XA scr 11 mL 172 4705 812 [some (.retAddr 4), some (.ref 0), some (.ref 136), some (.int x3)] [.long y0] (hs σ) (pI P)
def K_L_law_831 (scr : ScA)  (x3 : Int32) (y0 : Int64) (y1 : Int64) (σ : Nat → Nat → Int32) (P : Int32 → (Nat → Nat → Int32) → Prop) : Prop := XA scr 11 mL 172 4705 831 [some (.retAddr 4), some (.ref 0), some (.ref 136), some (.int x3)] [.long y1, .long y0] (hs σ) (pI P)
def K_L_law_856 (scr : ScA)  (x3 : Int32) (y0 : Int32) (σ : Nat → Nat → Int32) (P : Int32 → (Nat → Nat → Int32) → Prop) : Prop := XA scr 11 mL 172 4705 856 [some (.retAddr 4), some (.ref 0), some (.ref 136), some (.int x3)] [.int y0] (hs σ) (pI P)
def K_L_law_875 (scr : ScA)  (x3 : Int32) (y0 : Int32) (y1 : Int32) (σ : Nat → Nat → Int32) (P : Int32 → (Nat → Nat → Int32) → Prop) : Prop := XA scr 11 mL 172 4705 875 [some (.retAddr 4), some (.ref 0), some (.ref 136), some (.int x3)] [.int y1, .int y0] (hs σ) (pI P)
def K_L_law_899 (scr : ScA)  (x3 : Int32) (y0 : Int32) (σ : Nat → Nat → Int32) (P : Int32 → (Nat → Nat → Int32) → Prop) : Prop := XA scr 11 mL 172 4705 899 [some (.retAddr 4), some (.ref 0), some (.ref 136), some (.int x3)] [.int y0] (hs σ) (pI P)
def K_L_law_918 (scr : ScA)  (x3 : Int32) (y0 : Int32) (y1 : Int32) (σ : Nat → Nat → Int32) (P : Int32 → (Nat → Nat → Int32) → Prop) : Prop := XA scr 11 mL 172 4705 918 [some (.retAddr 4), some (.ref 0), some (.ref 136), some (.int x3)] [.int y1, .int y0] (hs σ) (pI P)
def K_L_law_932 (scr : ScA)  (x3 : Int32) (y0 : Int32) (σ : Nat → Nat → Int32) (P : Int32 → (Nat → Nat → Int32) → Prop) : Prop := XA scr 11 mL 172 4705 932 [some (.retAddr 4), some (.ref 0), some (.ref 136), some (.int x3)] [.int y0] (hs σ) (pI P)
def K_L_law_941 (scr : ScA)  (x3 : Int32) (y0 : Int32) (y1 : Int32) (σ : Nat → Nat → Int32) (P : Int32 → (Nat → Nat → Int32) → Prop) : Prop := XA scr 11 mL 172 4705 941 [some (.retAddr 4), some (.ref 0), some (.ref 136), some (.int x3)] [.int y1, .int y0] (hs σ) (pI P)
def K_L_law_970 (scr : ScA)  (x3 : Int32) (y0 : Int32) (σ : Nat → Nat → Int32) (P : Int32 → (Nat → Nat → Int32) → Prop) : Prop := XA scr 11 mL 172 4705 970 [some (.retAddr 4), some (.ref 0), some (.ref 136), some (.int x3)] [.int y0] (hs σ) (pI P)
def K_L_law_994 (scr : ScA)  (x3 : Int32) (y0 : Int32) (y1 : Int32) (σ : Nat → Nat → Int32) (P : Int32 → (Nat → Nat → Int32) → Prop) : Prop := XA scr 11 mL 172 4705 994 [some (.retAddr 4), some (.ref 0), some (.ref 136), some (.int x3)] [.int y1, .int y0] (hs σ) (pI P)
def K_L_law_1018 (scr : ScA)  (x3 : Int32) (y0 : Int32) (σ : Nat → Nat → Int32) (P : Int32 → (Nat → Nat → Int32) → Prop) : Prop := XA scr 11 mL 172 4705 1018 [some (.retAddr 4), some (.ref 0), some (.ref 136), some (.int x3)] [.int y0] (hs σ) (pI P)
def K_L_law_1037 (scr : ScA)  (x3 : Int32) (y0 : Int32) (y1 : Int32) (σ : Nat → Nat → Int32) (P : Int32 → (Nat → Nat → Int32) → Prop) : Prop := XA scr 11 mL 172 4705 1037 [some (.retAddr 4), some (.ref 0), some (.ref 136), some (.int x3)] [.int y1, .int y0] (hs σ) (pI P)
def K_L_law_1071 (scr : ScA)  (x3 : Int32) (y0 : Int32) (σ : Nat → Nat → Int32) (P : Int32 → (Nat → Nat → Int32) → Prop) : Prop := XA scr 11 mL 172 4705 1071 [some (.retAddr 4), some (.ref 0), some (.ref 136), some (.int x3)] [.int y0] (hs σ) (pI P)
def K_L_law_1100 (scr : ScA)  (x3 : Int32) (y0 : Int32) (y1 : Int32) (σ : Nat → Nat → Int32) (P : Int32 → (Nat → Nat → Int32) → Prop) : Prop := XA scr 11 mL 172 4705 1100 [some (.retAddr 4), some (.ref 0), some (.ref 136), some (.int x3)] [.int y1, .int y0] (hs σ) (pI P)
def K_L_law_1119 (scr : ScA)  (x3 : Int32) (y0 : Int32) (σ : Nat → Nat → Int32) (P : Int32 → (Nat → Nat → Int32) → Prop) : Prop := XA scr 11 mL 172 4705 1119 [some (.retAddr 4), some (.ref 0), some (.ref 136), some (.int x3)] [.int y0] (hs σ) (pI P)
def K_L_law_1133 (scr : ScA)  (x3 : Int32) (y0 : Int32) (y1 : Int32) (σ : Nat → Nat → Int32) (P : Int32 → (Nat → Nat → Int32) → Prop) : Prop := XA scr 11 mL 172 4705 1133 [some (.retAddr 4), some (.ref 0), some (.ref 136), some (.int x3)] [.int y1, .int y0] (hs σ) (pI P)
def K_L_law_1147 (scr : ScA)  (x3 : Int32) (y0 : Int32) (σ : Nat → Nat → Int32) (P : Int32 → (Nat → Nat → Int32) → Prop) : Prop := XA scr 11 mL 172 4705 1147 [some (.retAddr 4), some (.ref 0), some (.ref 136), some (.int x3)] [.int y0] (hs σ) (pI P)
def K_L_law_1156 (scr : ScA)  (x3 : Int32) (y0 : Int32) (y1 : Int32) (σ : Nat → Nat → Int32) (P : Int32 → (Nat → Nat → Int32) → Prop) : Prop := XA scr 11 mL 172 4705 1156 [some (.retAddr 4), some (.ref 0), some (.ref 136), some (.int x3)] [.int y1, .int y0] (hs σ) (pI P)
def K_L_law_1165 (scr : ScA)  (x3 : Int32) (y0 : Int64) (σ : Nat → Nat → Int32) (P : Int32 → (Nat → Nat → Int32) → Prop) : Prop := XA scr 11 mL 172 4705 1165 [some (.retAddr 4), some (.ref 0), some (.ref 136), some (.int x3)] [.long y0] (hs σ) (pI P)
def K_L_law_1169 (scr : ScA)  (x3 : Int32) (y0 : Int64) (y1 : Int64) (σ : Nat → Nat → Int32) (P : Int32 → (Nat → Nat → Int32) → Prop) : Prop := XA scr 11 mL 172 4705 1169 [some (.retAddr 4), some (.ref 0), some (.ref 136), some (.int x3)] [.long y1, .long y0] (hs σ) (pI P)
set_option maxRecDepth 20000 in
theorem W_L_law_18 {scr : ScA}   {x3 : Int32}  {σ : Nat → Nat → Int32} {P : Int32 → (Nat → Nat → Int32) → Prop} (H : (((Int32.ofNat scr.1) - 6) < x3 → P 1 σ) ∧ (¬ ((Int32.ofNat scr.1) - 6) < x3 → (inB x3 scr.1 = true) ∧ ((((tbV scr 4 (Int32.toNatClampNeg x3)) &&& 63) = 0 → (inB (x3 + 1) scr.1 = true) ∧ (CiA scr 6 mX10_type [.ref 0, .int (tbV scr 4 (Int32.toNatClampNeg (x3 + 1)))] σ (fun r9 σ' => K_L_law_197 scr x3 r9 σ' P))) ∧ (((tbV scr 4 (Int32.toNatClampNeg x3)) &&& 63) = 1 → CiA scr 6 mX10_wipe [.ref 0] σ (fun r9 σ' => K_L_law_215 scr x3 r9 σ' P)) ∧ (((tbV scr 4 (Int32.toNatClampNeg x3)) &&& 63) = 2 → CiA scr 6 mX10_undo [.ref 0] σ (fun r9 σ' => K_L_law_228 scr x3 r9 σ' P)) ∧ (((tbV scr 4 (Int32.toNatClampNeg x3)) &&& 63) = 3 → CiA scr 0 mX10_fault [.ref 0] σ (fun r9 σ' => K_L_law_241 scr x3 r9 σ' P)) ∧ (((tbV scr 4 (Int32.toNatClampNeg x3)) &&& 63) = 4 → (inB (x3 + 1) scr.1 = true) ∧ (inB (x3 + 2) scr.1 = true) ∧ (CiA scr 1 mX10_acrobat [.ref 0, .int (tbV scr 4 (Int32.toNatClampNeg (x3 + 1))), .int (tbV scr 4 (Int32.toNatClampNeg (x3 + 2)))] σ (fun r9 σ' => K_L_law_264 scr x3 r9 σ' P))) ∧ (((tbV scr 4 (Int32.toNatClampNeg x3)) &&& 63) = 5 → (inB (x3 + 1) scr.1 = true) ∧ (inB (x3 + 2) scr.1 = true) ∧ (inB (x3 + 3) scr.1 = true) ∧ (CiA scr 3 mX10_event [.ref 0, .int (tbV scr 4 (Int32.toNatClampNeg (x3 + 1))), .int (tbV scr 4 (Int32.toNatClampNeg (x3 + 2))), .int (tbV scr 4 (Int32.toNatClampNeg (x3 + 3)))] σ (fun r9 σ' => K_L_law_302 scr x3 r9 σ' P))) ∧ (((tbV scr 4 (Int32.toNatClampNeg x3)) &&& 63) = 6 → CiA scr 3 mX10_back [.ref 0] σ (fun r9 σ' => K_L_law_330 scr x3 r9 σ' P)) ∧ (((tbV scr 4 (Int32.toNatClampNeg x3)) &&& 63) = 7 → (inB (x3 + 1) scr.1 = true) ∧ (CiA scr 4 mX10_read [.ref 0, .int (tbV scr 4 (Int32.toNatClampNeg (x3 + 1)))] σ (fun r9 σ' => K_L_law_348 scr x3 r9 σ' P))) ∧ (((tbV scr 4 (Int32.toNatClampNeg x3)) &&& 63) = 8 → (inB (x3 + 1) scr.1 = true) ∧ (inB (x3 + 2) scr.1 = true) ∧ (inB (x3 + 3) scr.1 = true) ∧ (CiA scr 5 mX10_at [.ref 0, .int (tbV scr 4 (Int32.toNatClampNeg (x3 + 1))), .int (tbV scr 4 (Int32.toNatClampNeg (x3 + 2))), .int (tbV scr 4 (Int32.toNatClampNeg (x3 + 3)))] σ (fun r9 σ' => K_L_law_381 scr x3 r9 σ' P))) ∧ (((tbV scr 4 (Int32.toNatClampNeg x3)) &&& 63) = 9 → (inB (x3 + 1) scr.1 = true) ∧ (inB (x3 + 2) scr.1 = true) ∧ (CiA scr 5 mX10_stands [.ref 0, .int (tbV scr 4 (Int32.toNatClampNeg (x3 + 1))), .int (tbV scr 4 (Int32.toNatClampNeg (x3 + 2)))] σ (fun r9 σ' => K_L_law_419 scr x3 r9 σ' P))) ∧ (((tbV scr 4 (Int32.toNatClampNeg x3)) &&& 63) = 10 → (inB (x3 + 1) scr.1 = true) ∧ (inB (x3 + 2) scr.1 = true) ∧ (CiA scr 5 mX10_tower [.ref 0, .int (tbV scr 4 (Int32.toNatClampNeg (x3 + 1))), .int (tbV scr 4 (Int32.toNatClampNeg (x3 + 2)))] σ (fun r9 σ' => K_L_law_452 scr x3 r9 σ' P))) ∧ (((tbV scr 4 (Int32.toNatClampNeg x3)) &&& 63) = 11 → (inB (x3 + 1) scr.1 = true) ∧ (CiA scr 5 mX10_sum [.ref 0, .int (tbV scr 4 (Int32.toNatClampNeg (x3 + 1)))] σ (fun r9 σ' => K_L_law_480 scr x3 r9 σ' P))) ∧ (((tbV scr 4 (Int32.toNatClampNeg x3)) &&& 63) = 12 → (inB (x3 + 1) scr.1 = true) ∧ (CiA scr 5 mX10_top [.ref 0, .int (tbV scr 4 (Int32.toNatClampNeg (x3 + 1)))] σ (fun r9 σ' => K_L_law_503 scr x3 r9 σ' P))) ∧ (((tbV scr 4 (Int32.toNatClampNeg x3)) &&& 63) = 13 → (inB (x3 + 1) scr.1 = true) ∧ (CiA scr 5 mX10_most [.ref 0, .int (tbV scr 4 (Int32.toNatClampNeg (x3 + 1)))] σ (fun r9 σ' => K_L_law_526 scr x3 r9 σ' P))) ∧ (((tbV scr 4 (Int32.toNatClampNeg x3)) &&& 63) = 14 → CiA scr 5 mX10_clumsy [.ref 0] σ (fun r9 σ' => K_L_law_544 scr x3 r9 σ' P)) ∧ (((tbV scr 4 (Int32.toNatClampNeg x3)) &&& 63) = 15 → CiA scr 5 mX10_down [.ref 0] σ (fun r9 σ' => K_L_law_557 scr x3 r9 σ' P)) ∧ (((tbV scr 4 (Int32.toNatClampNeg x3)) &&& 63) = 16 → (inB (x3 + 1) scr.1 = true) ∧ (CiA scr 5 mX10_swap [.ref 0, .int (tbV scr 4 (Int32.toNatClampNeg (x3 + 1)))] σ (fun r9 σ' => K_L_law_575 scr x3 r9 σ' P))) ∧ (((tbV scr 4 (Int32.toNatClampNeg x3)) &&& 63) = 17 → (inB (x3 + 1) scr.1 = true) ∧ (inB (x3 + 2) scr.1 = true) ∧ (CiA scr 5 mX10_come [.ref 0, .int (tbV scr 4 (Int32.toNatClampNeg (x3 + 1))), .int (tbV scr 4 (Int32.toNatClampNeg (x3 + 2)))] σ (fun r9 σ' => K_L_law_603 scr x3 r9 σ' P))) ∧ (((tbV scr 4 (Int32.toNatClampNeg x3)) &&& 63) = 18 → (inB (x3 + 1) scr.1 = true) ∧ (CiA scr 5 mX10_train [.ref 0, .int (tbV scr 4 (Int32.toNatClampNeg (x3 + 1)))] σ (fun r9 σ' => K_L_law_631 scr x3 r9 σ' P))) ∧ (((tbV scr 4 (Int32.toNatClampNeg x3)) &&& 63) = 19 → (inB (x3 + 1) scr.1 = true) ∧ (CiA scr 6 mX10_spare [.ref 0, .int (tbV scr 4 (Int32.toNatClampNeg (x3 + 1)))] σ (fun r9 σ' => K_L_law_654 scr x3 r9 σ' P))) ∧ (((tbV scr 4 (Int32.toNatClampNeg x3)) &&& 63) = 20 → (inB (x3 + 1) scr.1 = true) ∧ (inB (x3 + 2) scr.1 = true) ∧ (inB (x3 + 3) scr.1 = true) ∧ (CiA scr 2 mX10_seen [.ref 0, .int (tbV scr 4 (Int32.toNatClampNeg (x3 + 1))), .int (tbV scr 4 (Int32.toNatClampNeg (x3 + 2))), .int (tbV scr 4 (Int32.toNatClampNeg (x3 + 3)))] σ (fun r9 σ' => K_L_law_687 scr x3 r9 σ' P))) ∧ (((tbV scr 4 (Int32.toNatClampNeg x3)) &&& 63) = 21 → CiA scr 2 mX10_forget [.ref 0] σ (fun r9 σ' => K_L_law_715 scr x3 r9 σ' P)) ∧ (((tbV scr 4 (Int32.toNatClampNeg x3)) &&& 63) = 22 → CiA scr 5 mX10_never [.ref 0] σ (fun r9 σ' => K_L_law_728 scr x3 r9 σ' P)) ∧ (((tbV scr 4 (Int32.toNatClampNeg x3)) &&& 63) = 23 → (inB (x3 + 1) scr.1 = true) ∧ (inB (x3 + 2) scr.1 = true) ∧ (CiA scr 5 mX10_was [.ref 0, .int (tbV scr 4 (Int32.toNatClampNeg (x3 + 1))), .int (tbV scr 4 (Int32.toNatClampNeg (x3 + 2)))] σ (fun r9 σ' => K_L_law_751 scr x3 r9 σ' P))) ∧ (((tbV scr 4 (Int32.toNatClampNeg x3)) &&& 63) = 24 → (inB (x3 + 1) scr.1 = true) ∧ (CiA scr 5 mX10_ask [.ref 0, .int (tbV scr 4 (Int32.toNatClampNeg (x3 + 1)))] σ (fun r9 σ' => K_L_law_779 scr x3 r9 σ' P))) ∧ (((tbV scr 4 (Int32.toNatClampNeg x3)) &&& 63) = 25 → (inB (x3 + 1) scr.1 = true) ∧ (inB (x3 + 2) scr.1 = true) ∧ (inB (x3 + 3) scr.1 = true) ∧ (ClA scr 6 mX10_chance [.ref 0, .int (tbV scr 4 (Int32.toNatClampNeg (x3 + 1))), .int (tbV scr 4 (Int32.toNatClampNeg (x3 + 2))), .int (tbV scr 4 (Int32.toNatClampNeg (x3 + 3)))] σ (fun r9 σ' => K_L_law_812 scr x3 r9 σ' P))) ∧ (((tbV scr 4 (Int32.toNatClampNeg x3)) &&& 63) = 26 → (inB (x3 + 1) scr.1 = true) ∧ (inB (x3 + 2) scr.1 = true) ∧ (inB (x3 + 3) scr.1 = true) ∧ (CiA scr 4 mX10_years [.ref 0, .int (tbV scr 4 (Int32.toNatClampNeg (x3 + 1))), .int (tbV scr 4 (Int32.toNatClampNeg (x3 + 2))), .int (tbV scr 4 (Int32.toNatClampNeg (x3 + 3)))] σ (fun r9 σ' => K_L_law_856 scr x3 r9 σ' P))) ∧ (((tbV scr 4 (Int32.toNatClampNeg x3)) &&& 63) = 27 → (inB (x3 + 1) scr.1 = true) ∧ (inB (x3 + 2) scr.1 = true) ∧ (inB (x3 + 3) scr.1 = true) ∧ (CiA scr 2 mX10_sheet [.ref 0, .int (tbV scr 4 (Int32.toNatClampNeg (x3 + 1))), .int (tbV scr 4 (Int32.toNatClampNeg (x3 + 2))), .int (tbV scr 4 (Int32.toNatClampNeg (x3 + 3)))] σ (fun r9 σ' => K_L_law_899 scr x3 r9 σ' P))) ∧ (((tbV scr 4 (Int32.toNatClampNeg x3)) &&& 63) = 28 → (inB (x3 + 1) scr.1 = true) ∧ (CiA scr 1 mX10_lose [.ref 0, .int (tbV scr 4 (Int32.toNatClampNeg (x3 + 1)))] σ (fun r9 σ' => K_L_law_932 scr x3 r9 σ' P))) ∧ (((tbV scr 4 (Int32.toNatClampNeg x3)) &&& 63) = 29 → (inB (x3 + 1) scr.1 = true) ∧ (inB (x3 + 2) scr.1 = true) ∧ (inB (x3 + 3) scr.1 = true) ∧ (inB (x3 + 4) scr.1 = true) ∧ (CiA scr 2 mX10_put [.ref 0, .int (tbV scr 4 (Int32.toNatClampNeg (x3 + 1))), .int (tbV scr 4 (Int32.toNatClampNeg (x3 + 2))), .int (tbV scr 4 (Int32.toNatClampNeg (x3 + 3))), .int (tbV scr 4 (Int32.toNatClampNeg (x3 + 4)))] σ (fun r9 σ' => K_L_law_970 scr x3 r9 σ' P))) ∧ (((tbV scr 4 (Int32.toNatClampNeg x3)) &&& 63) = 30 → (inB (x3 + 1) scr.1 = true) ∧ (inB (x3 + 2) scr.1 = true) ∧ (inB (x3 + 3) scr.1 = true) ∧ (CiA scr 2 mX10_get [.ref 0, .int (tbV scr 4 (Int32.toNatClampNeg (x3 + 1))), .int (tbV scr 4 (Int32.toNatClampNeg (x3 + 2))), .int (tbV scr 4 (Int32.toNatClampNeg (x3 + 3)))] σ (fun r9 σ' => K_L_law_1018 scr x3 r9 σ' P))) ∧ (((tbV scr 4 (Int32.toNatClampNeg x3)) &&& 63) = 31 → (inB (x3 + 1) scr.1 = true) ∧ (inB (x3 + 2) scr.1 = true) ∧ (inB (x3 + 3) scr.1 = true) ∧ (inB (x3 + 4) scr.1 = true) ∧ (inB (x3 + 5) scr.1 = true) ∧ (CiA scr 1 mX10_copy [.ref 0, .int (tbV scr 4 (Int32.toNatClampNeg (x3 + 1))), .int (tbV scr 4 (Int32.toNatClampNeg (x3 + 2))), .int (tbV scr 4 (Int32.toNatClampNeg (x3 + 3))), .int (tbV scr 4 (Int32.toNatClampNeg (x3 + 4))), .int (tbV scr 4 (Int32.toNatClampNeg (x3 + 5)))] σ (fun r9 σ' => K_L_law_1071 scr x3 r9 σ' P))) ∧ (((tbV scr 4 (Int32.toNatClampNeg x3)) &&& 63) = 32 → (inB (x3 + 1) scr.1 = true) ∧ (inB (x3 + 2) scr.1 = true) ∧ (CiA scr 6 mX10_write [.ref 0, .int (tbV scr 4 (Int32.toNatClampNeg (x3 + 1))), .int (tbV scr 4 (Int32.toNatClampNeg (x3 + 2)))] σ (fun r9 σ' => K_L_law_1119 scr x3 r9 σ' P))) ∧ (((tbV scr 4 (Int32.toNatClampNeg x3)) &&& 63) = 33 → (inB (x3 + 1) scr.1 = true) ∧ (CiA scr 6 mX10_count [.ref 0, .int (tbV scr 4 (Int32.toNatClampNeg (x3 + 1)))] σ (fun r9 σ' => K_L_law_1147 scr x3 r9 σ' P))) ∧ (((tbV scr 4 (Int32.toNatClampNeg x3)) &&& 63) = 34 → ClA scr 7 mX10_digest [.ref 0] σ (fun r9 σ' => K_L_law_1165 scr x3 r9 σ' P)) ∧ (¬ ((tbV scr 4 (Int32.toNatClampNeg x3)) &&& 63) = 0 → ¬ ((tbV scr 4 (Int32.toNatClampNeg x3)) &&& 63) = 1 → ¬ ((tbV scr 4 (Int32.toNatClampNeg x3)) &&& 63) = 2 → ¬ ((tbV scr 4 (Int32.toNatClampNeg x3)) &&& 63) = 3 → ¬ ((tbV scr 4 (Int32.toNatClampNeg x3)) &&& 63) = 4 → ¬ ((tbV scr 4 (Int32.toNatClampNeg x3)) &&& 63) = 5 → ¬ ((tbV scr 4 (Int32.toNatClampNeg x3)) &&& 63) = 6 → ¬ ((tbV scr 4 (Int32.toNatClampNeg x3)) &&& 63) = 7 → ¬ ((tbV scr 4 (Int32.toNatClampNeg x3)) &&& 63) = 8 → ¬ ((tbV scr 4 (Int32.toNatClampNeg x3)) &&& 63) = 9 → ¬ ((tbV scr 4 (Int32.toNatClampNeg x3)) &&& 63) = 10 → ¬ ((tbV scr 4 (Int32.toNatClampNeg x3)) &&& 63) = 11 → ¬ ((tbV scr 4 (Int32.toNatClampNeg x3)) &&& 63) = 12 → ¬ ((tbV scr 4 (Int32.toNatClampNeg x3)) &&& 63) = 13 → ¬ ((tbV scr 4 (Int32.toNatClampNeg x3)) &&& 63) = 14 → ¬ ((tbV scr 4 (Int32.toNatClampNeg x3)) &&& 63) = 15 → ¬ ((tbV scr 4 (Int32.toNatClampNeg x3)) &&& 63) = 16 → ¬ ((tbV scr 4 (Int32.toNatClampNeg x3)) &&& 63) = 17 → ¬ ((tbV scr 4 (Int32.toNatClampNeg x3)) &&& 63) = 18 → ¬ ((tbV scr 4 (Int32.toNatClampNeg x3)) &&& 63) = 19 → ¬ ((tbV scr 4 (Int32.toNatClampNeg x3)) &&& 63) = 20 → ¬ ((tbV scr 4 (Int32.toNatClampNeg x3)) &&& 63) = 21 → ¬ ((tbV scr 4 (Int32.toNatClampNeg x3)) &&& 63) = 22 → ¬ ((tbV scr 4 (Int32.toNatClampNeg x3)) &&& 63) = 23 → ¬ ((tbV scr 4 (Int32.toNatClampNeg x3)) &&& 63) = 24 → ¬ ((tbV scr 4 (Int32.toNatClampNeg x3)) &&& 63) = 25 → ¬ ((tbV scr 4 (Int32.toNatClampNeg x3)) &&& 63) = 26 → ¬ ((tbV scr 4 (Int32.toNatClampNeg x3)) &&& 63) = 27 → ¬ ((tbV scr 4 (Int32.toNatClampNeg x3)) &&& 63) = 28 → ¬ ((tbV scr 4 (Int32.toNatClampNeg x3)) &&& 63) = 29 → ¬ ((tbV scr 4 (Int32.toNatClampNeg x3)) &&& 63) = 30 → ¬ ((tbV scr 4 (Int32.toNatClampNeg x3)) &&& 63) = 31 → ¬ ((tbV scr 4 (Int32.toNatClampNeg x3)) &&& 63) = 32 → ¬ ((tbV scr 4 (Int32.toNatClampNeg x3)) &&& 63) = 33 → ¬ ((tbV scr 4 (Int32.toNatClampNeg x3)) &&& 63) = 34 → K_L_law_18 scr (x3 + 6) σ P)))) : K_L_law_18 scr x3 σ P := by
  show XA scr 11 mL 172 4705 18 [some (.retAddr 4), some (.ref 0), some (.ref 136), some (.int x3)] [] (hs σ) (pI P)
  refine XA.blk (e9 := 24) (ok := true) (ls' := [some (.retAddr 4), some (.ref 0), some (.ref 136), some (.int x3)]) (st' := [.int ((Int32.ofNat scr.1) - 6), .int x3]) (h' := hs σ) [(.iload_n 3, 1, 3, 0, 0, 0, 0, 0), (.aload_n 0, 1, 0, 0, 0, 0, 0, 0), (.arraylength, 1, 0, 0, 0, 0, 0, 0), (.bipush 6, 2, 0, 0, 0, 0, 6, 0), (.isub, 1, 0, 0, 0, 0, 0, 0)] (by decide +kernel) rfl rfl ?_
  refine XA.icmp_gt (1157) 1181 (by decide +kernel) (fun c1 => ?_) (fun c1 => ?_)
  · have H := H.1 c1
    refine XA.blk (e9 := 1182) (ok := true) (ls' := [some (.retAddr 4), some (.ref 0), some (.ref 136), some (.int x3)]) (st' := [.int 1]) (h' := hs σ) [(.iconst 1, 1, 0, 0, 0, 0, 1, 0)] (by decide +kernel) rfl rfl ?_
    exact XA.ret (some (.int 1)) rfl (show ckRt mL 1182 .ireturn = true by decide +kernel) (Or.inr rfl) (Nat.le_of_ble_eq_true rfl) (Nat.le_of_ble_eq_true rfl) ⟨_, _, rfl, rfl, H⟩
  · have H := H.2 c1
    obtain ⟨o1, H⟩ := H
    refine XA.blk (e9 := 33) (ok := inB x3 scr.1 && (true)) (ls' := [some (.retAddr 4), some (.ref 0), some (.ref 136), some (.int x3)]) (st' := [.int ((tbV scr 4 (Int32.toNatClampNeg x3)) &&& 63)]) (h' := hs σ) [(.aload_n 0, 1, 0, 0, 0, 0, 0, 0), (.iload_n 3, 1, 3, 0, 0, 0, 0, 0), (.iaload, 1, 0, 0, 0, 0, 0, 0), (.bipush 63, 2, 0, 0, 0, 0, 63, 0), (.iand, 1, 0, 0, 0, 0, 0, 0)] (by decide +kernel) rfl (by simp only [o1, Bool.and_true, Bool.true_and]) ?_
    refine XA.tsw (1142) (0) (34) [155, 178, 191, 204, 217, 250, 293, 306, 329, 372, 405, 438, 461, 484, 507, 520, 533, 556, 589, 612, 635, 678, 691, 704, 737, 760, 804, 847, 890, 913, 966, 1009, 1072, 1105, 1128] 155 [(0, 188), (1, 211), (2, 224), (3, 237), (4, 250), (5, 283), (6, 326), (7, 339), (8, 362), (9, 405), (10, 438), (11, 471), (12, 494), (13, 517), (14, 540), (15, 553), (16, 566), (17, 589), (18, 622), (19, 645), (20, 668), (21, 711), (22, 724), (23, 737), (24, 770), (25, 793), (26, 837), (27, 880), (28, 923), (29, 946), (30, 999), (31, 1042), (32, 1105), (33, 1138), (34, 1161)] 1175 (by decide +kernel) (fun q9 hq9 e9 => ?_) (fun e9 => ?_)
    · simp only [List.mem_cons, List.not_mem_nil, or_false] at hq9
      rcases hq9 with rfl | rfl | rfl | rfl | rfl | rfl | rfl | rfl | rfl | rfl | rfl | rfl | rfl | rfl | rfl | rfl | rfl | rfl | rfl | rfl | rfl | rfl | rfl | rfl | rfl | rfl | rfl | rfl | rfl | rfl | rfl | rfl | rfl | rfl | rfl
      · have H := H.1 e9
        obtain ⟨o2, H⟩ := H
        refine XA.blk (e9 := 194) (ok := inB (x3 + 1) scr.1 && (true)) (ls' := [some (.retAddr 4), some (.ref 0), some (.ref 136), some (.int x3)]) (st' := [.int (tbV scr 4 (Int32.toNatClampNeg (x3 + 1))), .ref 0]) (h' := hs σ) [(.aload_n 1, 1, 1, 0, 0, 0, 0, 0), (.aload_n 0, 1, 0, 0, 0, 0, 0, 0), (.iload_n 3, 1, 3, 0, 0, 0, 0, 0), (.iconst 1, 1, 0, 0, 0, 0, 1, 0), (.iadd, 1, 0, 0, 0, 0, 0, 0), (.iaload, 1, 0, 0, 0, 0, 0, 0)] (by decide +kernel) rfl (by simp only [o2, Bool.and_true, Bool.true_and]) ?_
        refine XA.callV (as := [.int (tbV scr 4 (Int32.toNatClampNeg (x3 + 1)))]) (rest := []) (mc' := 0) (ms' := 0) (idx := 13) (t := 441) cv_X10_type (by decide +kernel) rfl rfl rfl (Nat.le_of_ble_eq_true rfl) (Nat.le_of_ble_eq_true rfl) (Nat.le_of_ble_eq_true rfl) (Nat.le_of_ble_eq_true rfl) (H) (fun rv h' hp => ?_)
        obtain ⟨r9, s9, rfl, rfl, hK⟩ := hp
        exact ⟨rfl, rfl, hK⟩
      · have H := H.2.1 e9
        refine XA.blk (e9 := 212) (ok := true) (ls' := [some (.retAddr 4), some (.ref 0), some (.ref 136), some (.int x3)]) (st' := [.ref 0]) (h' := hs σ) [(.aload_n 1, 1, 1, 0, 0, 0, 0, 0)] (by decide +kernel) rfl rfl ?_
        refine XA.callV (as := []) (rest := []) (mc' := 0) (ms' := 0) (idx := 18) (t := 492) cv_X10_wipe (by decide +kernel) rfl rfl rfl (Nat.le_of_ble_eq_true rfl) (Nat.le_of_ble_eq_true rfl) (Nat.le_of_ble_eq_true rfl) (Nat.le_of_ble_eq_true rfl) (H) (fun rv h' hp => ?_)
        obtain ⟨r9, s9, rfl, rfl, hK⟩ := hp
        exact ⟨rfl, rfl, hK⟩
      · have H := H.2.2.1 e9
        refine XA.blk (e9 := 225) (ok := true) (ls' := [some (.retAddr 4), some (.ref 0), some (.ref 136), some (.int x3)]) (st' := [.ref 0]) (h' := hs σ) [(.aload_n 1, 1, 1, 0, 0, 0, 0, 0)] (by decide +kernel) rfl rfl ?_
        refine XA.callV (as := []) (rest := []) (mc' := 0) (ms' := 0) (idx := 23) (t := 496) cv_X10_undo (by decide +kernel) rfl rfl rfl (Nat.le_of_ble_eq_true rfl) (Nat.le_of_ble_eq_true rfl) (Nat.le_of_ble_eq_true rfl) (Nat.le_of_ble_eq_true rfl) (H) (fun rv h' hp => ?_)
        obtain ⟨r9, s9, rfl, rfl, hK⟩ := hp
        exact ⟨rfl, rfl, hK⟩
      · have H := H.2.2.2.1 e9
        refine XA.blk (e9 := 238) (ok := true) (ls' := [some (.retAddr 4), some (.ref 0), some (.ref 136), some (.int x3)]) (st' := [.ref 0]) (h' := hs σ) [(.aload_n 1, 1, 1, 0, 0, 0, 0, 0)] (by decide +kernel) rfl rfl ?_
        refine XA.callV (as := []) (rest := []) (mc' := 0) (ms' := 0) (idx := 27) (t := 500) cv_X10_fault (by decide +kernel) rfl rfl rfl (Nat.le_of_ble_eq_true rfl) (Nat.le_of_ble_eq_true rfl) (Nat.le_of_ble_eq_true rfl) (Nat.le_of_ble_eq_true rfl) (H) (fun rv h' hp => ?_)
        obtain ⟨r9, s9, rfl, rfl, hK⟩ := hp
        exact ⟨rfl, rfl, hK⟩
      · have H := H.2.2.2.2.1 e9
        obtain ⟨o2, o3, H⟩ := H
        refine XA.blk (e9 := 261) (ok := inB (x3 + 1) scr.1 && (inB (x3 + 2) scr.1 && (true))) (ls' := [some (.retAddr 4), some (.ref 0), some (.ref 136), some (.int x3)]) (st' := [.int (tbV scr 4 (Int32.toNatClampNeg (x3 + 2))), .int (tbV scr 4 (Int32.toNatClampNeg (x3 + 1))), .ref 0]) (h' := hs σ) [(.aload_n 1, 1, 1, 0, 0, 0, 0, 0), (.aload_n 0, 1, 0, 0, 0, 0, 0, 0), (.iload_n 3, 1, 3, 0, 0, 0, 0, 0), (.iconst 1, 1, 0, 0, 0, 0, 1, 0), (.iadd, 1, 0, 0, 0, 0, 0, 0), (.iaload, 1, 0, 0, 0, 0, 0, 0), (.aload_n 0, 1, 0, 0, 0, 0, 0, 0), (.iload_n 3, 1, 3, 0, 0, 0, 0, 0), (.iconst 2, 1, 0, 0, 0, 0, 2, 0), (.iadd, 1, 0, 0, 0, 0, 0, 0), (.iaload, 1, 0, 0, 0, 0, 0, 0)] (by decide +kernel) rfl (by simp only [o2, o3, Bool.and_true, Bool.true_and]) ?_
        refine XA.callV (as := [.int (tbV scr 4 (Int32.toNatClampNeg (x3 + 1))), .int (tbV scr 4 (Int32.toNatClampNeg (x3 + 2)))]) (rest := []) (mc' := 0) (ms' := 0) (idx := 31) (t := 504) cv_X10_acrobat (by decide +kernel) rfl rfl rfl (Nat.le_of_ble_eq_true rfl) (Nat.le_of_ble_eq_true rfl) (Nat.le_of_ble_eq_true rfl) (Nat.le_of_ble_eq_true rfl) (H) (fun rv h' hp => ?_)
        obtain ⟨r9, s9, rfl, rfl, hK⟩ := hp
        exact ⟨rfl, rfl, hK⟩
      · have H := H.2.2.2.2.2.1 e9
        obtain ⟨o2, o3, o4, H⟩ := H
        refine XA.blk (e9 := 299) (ok := inB (x3 + 1) scr.1 && (inB (x3 + 2) scr.1 && (inB (x3 + 3) scr.1 && (true)))) (ls' := [some (.retAddr 4), some (.ref 0), some (.ref 136), some (.int x3)]) (st' := [.int (tbV scr 4 (Int32.toNatClampNeg (x3 + 3))), .int (tbV scr 4 (Int32.toNatClampNeg (x3 + 2))), .int (tbV scr 4 (Int32.toNatClampNeg (x3 + 1))), .ref 0]) (h' := hs σ) [(.aload_n 1, 1, 1, 0, 0, 0, 0, 0), (.aload_n 0, 1, 0, 0, 0, 0, 0, 0), (.iload_n 3, 1, 3, 0, 0, 0, 0, 0), (.iconst 1, 1, 0, 0, 0, 0, 1, 0), (.iadd, 1, 0, 0, 0, 0, 0, 0), (.iaload, 1, 0, 0, 0, 0, 0, 0), (.aload_n 0, 1, 0, 0, 0, 0, 0, 0), (.iload_n 3, 1, 3, 0, 0, 0, 0, 0), (.iconst 2, 1, 0, 0, 0, 0, 2, 0), (.iadd, 1, 0, 0, 0, 0, 0, 0), (.iaload, 1, 0, 0, 0, 0, 0, 0), (.aload_n 0, 1, 0, 0, 0, 0, 0, 0), (.iload_n 3, 1, 3, 0, 0, 0, 0, 0), (.iconst 3, 1, 0, 0, 0, 0, 3, 0), (.iadd, 1, 0, 0, 0, 0, 0, 0), (.iaload, 1, 0, 0, 0, 0, 0, 0)] (by decide +kernel) rfl (by simp only [o2, o3, o4, Bool.and_true, Bool.true_and]) ?_
        refine XA.callV (as := [.int (tbV scr 4 (Int32.toNatClampNeg (x3 + 1))), .int (tbV scr 4 (Int32.toNatClampNeg (x3 + 2))), .int (tbV scr 4 (Int32.toNatClampNeg (x3 + 3)))]) (rest := []) (mc' := 0) (ms' := 0) (idx := 36) (t := 508) cv_X10_event (by decide +kernel) rfl rfl rfl (Nat.le_of_ble_eq_true rfl) (Nat.le_of_ble_eq_true rfl) (Nat.le_of_ble_eq_true rfl) (Nat.le_of_ble_eq_true rfl) (H) (fun rv h' hp => ?_)
        obtain ⟨r9, s9, rfl, rfl, hK⟩ := hp
        exact ⟨rfl, rfl, hK⟩
      · have H := H.2.2.2.2.2.2.1 e9
        refine XA.blk (e9 := 327) (ok := true) (ls' := [some (.retAddr 4), some (.ref 0), some (.ref 136), some (.int x3)]) (st' := [.ref 0]) (h' := hs σ) [(.aload_n 1, 1, 1, 0, 0, 0, 0, 0)] (by decide +kernel) rfl rfl ?_
        refine XA.callV (as := []) (rest := []) (mc' := 0) (ms' := 0) (idx := 41) (t := 516) cv_X10_back (by decide +kernel) rfl rfl rfl (Nat.le_of_ble_eq_true rfl) (Nat.le_of_ble_eq_true rfl) (Nat.le_of_ble_eq_true rfl) (Nat.le_of_ble_eq_true rfl) (H) (fun rv h' hp => ?_)
        obtain ⟨r9, s9, rfl, rfl, hK⟩ := hp
        exact ⟨rfl, rfl, hK⟩
      · have H := H.2.2.2.2.2.2.2.1 e9
        obtain ⟨o2, H⟩ := H
        refine XA.blk (e9 := 345) (ok := inB (x3 + 1) scr.1 && (true)) (ls' := [some (.retAddr 4), some (.ref 0), some (.ref 136), some (.int x3)]) (st' := [.int (tbV scr 4 (Int32.toNatClampNeg (x3 + 1))), .ref 0]) (h' := hs σ) [(.aload_n 1, 1, 1, 0, 0, 0, 0, 0), (.aload_n 0, 1, 0, 0, 0, 0, 0, 0), (.iload_n 3, 1, 3, 0, 0, 0, 0, 0), (.iconst 1, 1, 0, 0, 0, 0, 1, 0), (.iadd, 1, 0, 0, 0, 0, 0, 0), (.iaload, 1, 0, 0, 0, 0, 0, 0)] (by decide +kernel) rfl (by simp only [o2, Bool.and_true, Bool.true_and]) ?_
        refine XA.callV (as := [.int (tbV scr 4 (Int32.toNatClampNeg (x3 + 1)))]) (rest := []) (mc' := 0) (ms' := 0) (idx := 45) (t := 520) cv_X10_read (by decide +kernel) rfl rfl rfl (Nat.le_of_ble_eq_true rfl) (Nat.le_of_ble_eq_true rfl) (Nat.le_of_ble_eq_true rfl) (Nat.le_of_ble_eq_true rfl) (H) (fun rv h' hp => ?_)
        obtain ⟨r9, s9, rfl, rfl, hK⟩ := hp
        exact ⟨rfl, rfl, hK⟩
      · have H := H.2.2.2.2.2.2.2.2.1 e9
        obtain ⟨o2, o3, o4, H⟩ := H
        refine XA.blk (e9 := 378) (ok := inB (x3 + 1) scr.1 && (inB (x3 + 2) scr.1 && (inB (x3 + 3) scr.1 && (true)))) (ls' := [some (.retAddr 4), some (.ref 0), some (.ref 136), some (.int x3)]) (st' := [.int (tbV scr 4 (Int32.toNatClampNeg (x3 + 3))), .int (tbV scr 4 (Int32.toNatClampNeg (x3 + 2))), .int (tbV scr 4 (Int32.toNatClampNeg (x3 + 1))), .ref 0]) (h' := hs σ) [(.aload_n 1, 1, 1, 0, 0, 0, 0, 0), (.aload_n 0, 1, 0, 0, 0, 0, 0, 0), (.iload_n 3, 1, 3, 0, 0, 0, 0, 0), (.iconst 1, 1, 0, 0, 0, 0, 1, 0), (.iadd, 1, 0, 0, 0, 0, 0, 0), (.iaload, 1, 0, 0, 0, 0, 0, 0), (.aload_n 0, 1, 0, 0, 0, 0, 0, 0), (.iload_n 3, 1, 3, 0, 0, 0, 0, 0), (.iconst 2, 1, 0, 0, 0, 0, 2, 0), (.iadd, 1, 0, 0, 0, 0, 0, 0), (.iaload, 1, 0, 0, 0, 0, 0, 0), (.aload_n 0, 1, 0, 0, 0, 0, 0, 0), (.iload_n 3, 1, 3, 0, 0, 0, 0, 0), (.iconst 3, 1, 0, 0, 0, 0, 3, 0), (.iadd, 1, 0, 0, 0, 0, 0, 0), (.iaload, 1, 0, 0, 0, 0, 0, 0)] (by decide +kernel) rfl (by simp only [o2, o3, o4, Bool.and_true, Bool.true_and]) ?_
        refine XA.callV (as := [.int (tbV scr 4 (Int32.toNatClampNeg (x3 + 1))), .int (tbV scr 4 (Int32.toNatClampNeg (x3 + 2))), .int (tbV scr 4 (Int32.toNatClampNeg (x3 + 3)))]) (rest := []) (mc' := 0) (ms' := 0) (idx := 49) (t := 534) cv_X10_at (by decide +kernel) rfl rfl rfl (Nat.le_of_ble_eq_true rfl) (Nat.le_of_ble_eq_true rfl) (Nat.le_of_ble_eq_true rfl) (Nat.le_of_ble_eq_true rfl) (H) (fun rv h' hp => ?_)
        obtain ⟨r9, s9, rfl, rfl, hK⟩ := hp
        exact ⟨rfl, rfl, hK⟩
      · have H := H.2.2.2.2.2.2.2.2.2.1 e9
        obtain ⟨o2, o3, H⟩ := H
        refine XA.blk (e9 := 416) (ok := inB (x3 + 1) scr.1 && (inB (x3 + 2) scr.1 && (true))) (ls' := [some (.retAddr 4), some (.ref 0), some (.ref 136), some (.int x3)]) (st' := [.int (tbV scr 4 (Int32.toNatClampNeg (x3 + 2))), .int (tbV scr 4 (Int32.toNatClampNeg (x3 + 1))), .ref 0]) (h' := hs σ) [(.aload_n 1, 1, 1, 0, 0, 0, 0, 0), (.aload_n 0, 1, 0, 0, 0, 0, 0, 0), (.iload_n 3, 1, 3, 0, 0, 0, 0, 0), (.iconst 1, 1, 0, 0, 0, 0, 1, 0), (.iadd, 1, 0, 0, 0, 0, 0, 0), (.iaload, 1, 0, 0, 0, 0, 0, 0), (.aload_n 0, 1, 0, 0, 0, 0, 0, 0), (.iload_n 3, 1, 3, 0, 0, 0, 0, 0), (.iconst 2, 1, 0, 0, 0, 0, 2, 0), (.iadd, 1, 0, 0, 0, 0, 0, 0), (.iaload, 1, 0, 0, 0, 0, 0, 0)] (by decide +kernel) rfl (by simp only [o2, o3, Bool.and_true, Bool.true_and]) ?_
        refine XA.callV (as := [.int (tbV scr 4 (Int32.toNatClampNeg (x3 + 1))), .int (tbV scr 4 (Int32.toNatClampNeg (x3 + 2)))]) (rest := []) (mc' := 0) (ms' := 0) (idx := 53) (t := 612) cv_X10_stands (by decide +kernel) rfl rfl rfl (Nat.le_of_ble_eq_true rfl) (Nat.le_of_ble_eq_true rfl) (Nat.le_of_ble_eq_true rfl) (Nat.le_of_ble_eq_true rfl) (H) (fun rv h' hp => ?_)
        obtain ⟨r9, s9, rfl, rfl, hK⟩ := hp
        exact ⟨rfl, rfl, hK⟩
      · have H := H.2.2.2.2.2.2.2.2.2.2.1 e9
        obtain ⟨o2, o3, H⟩ := H
        refine XA.blk (e9 := 449) (ok := inB (x3 + 1) scr.1 && (inB (x3 + 2) scr.1 && (true))) (ls' := [some (.retAddr 4), some (.ref 0), some (.ref 136), some (.int x3)]) (st' := [.int (tbV scr 4 (Int32.toNatClampNeg (x3 + 2))), .int (tbV scr 4 (Int32.toNatClampNeg (x3 + 1))), .ref 0]) (h' := hs σ) [(.aload_n 1, 1, 1, 0, 0, 0, 0, 0), (.aload_n 0, 1, 0, 0, 0, 0, 0, 0), (.iload_n 3, 1, 3, 0, 0, 0, 0, 0), (.iconst 1, 1, 0, 0, 0, 0, 1, 0), (.iadd, 1, 0, 0, 0, 0, 0, 0), (.iaload, 1, 0, 0, 0, 0, 0, 0), (.aload_n 0, 1, 0, 0, 0, 0, 0, 0), (.iload_n 3, 1, 3, 0, 0, 0, 0, 0), (.iconst 2, 1, 0, 0, 0, 0, 2, 0), (.iadd, 1, 0, 0, 0, 0, 0, 0), (.iaload, 1, 0, 0, 0, 0, 0, 0)] (by decide +kernel) rfl (by simp only [o2, o3, Bool.and_true, Bool.true_and]) ?_
        refine XA.callV (as := [.int (tbV scr 4 (Int32.toNatClampNeg (x3 + 1))), .int (tbV scr 4 (Int32.toNatClampNeg (x3 + 2)))]) (rest := []) (mc' := 0) (ms' := 0) (idx := 57) (t := 620) cv_X10_tower (by decide +kernel) rfl rfl rfl (Nat.le_of_ble_eq_true rfl) (Nat.le_of_ble_eq_true rfl) (Nat.le_of_ble_eq_true rfl) (Nat.le_of_ble_eq_true rfl) (H) (fun rv h' hp => ?_)
        obtain ⟨r9, s9, rfl, rfl, hK⟩ := hp
        exact ⟨rfl, rfl, hK⟩
      · have H := H.2.2.2.2.2.2.2.2.2.2.2.1 e9
        obtain ⟨o2, H⟩ := H
        refine XA.blk (e9 := 477) (ok := inB (x3 + 1) scr.1 && (true)) (ls' := [some (.retAddr 4), some (.ref 0), some (.ref 136), some (.int x3)]) (st' := [.int (tbV scr 4 (Int32.toNatClampNeg (x3 + 1))), .ref 0]) (h' := hs σ) [(.aload_n 1, 1, 1, 0, 0, 0, 0, 0), (.aload_n 0, 1, 0, 0, 0, 0, 0, 0), (.iload_n 3, 1, 3, 0, 0, 0, 0, 0), (.iconst 1, 1, 0, 0, 0, 0, 1, 0), (.iadd, 1, 0, 0, 0, 0, 0, 0), (.iaload, 1, 0, 0, 0, 0, 0, 0)] (by decide +kernel) rfl (by simp only [o2, Bool.and_true, Bool.true_and]) ?_
        refine XA.callV (as := [.int (tbV scr 4 (Int32.toNatClampNeg (x3 + 1)))]) (rest := []) (mc' := 0) (ms' := 0) (idx := 61) (t := 630) cv_X10_sum (by decide +kernel) rfl rfl rfl (Nat.le_of_ble_eq_true rfl) (Nat.le_of_ble_eq_true rfl) (Nat.le_of_ble_eq_true rfl) (Nat.le_of_ble_eq_true rfl) (H) (fun rv h' hp => ?_)
        obtain ⟨r9, s9, rfl, rfl, hK⟩ := hp
        exact ⟨rfl, rfl, hK⟩
      · have H := H.2.2.2.2.2.2.2.2.2.2.2.2.1 e9
        obtain ⟨o2, H⟩ := H
        refine XA.blk (e9 := 500) (ok := inB (x3 + 1) scr.1 && (true)) (ls' := [some (.retAddr 4), some (.ref 0), some (.ref 136), some (.int x3)]) (st' := [.int (tbV scr 4 (Int32.toNatClampNeg (x3 + 1))), .ref 0]) (h' := hs σ) [(.aload_n 1, 1, 1, 0, 0, 0, 0, 0), (.aload_n 0, 1, 0, 0, 0, 0, 0, 0), (.iload_n 3, 1, 3, 0, 0, 0, 0, 0), (.iconst 1, 1, 0, 0, 0, 0, 1, 0), (.iadd, 1, 0, 0, 0, 0, 0, 0), (.iaload, 1, 0, 0, 0, 0, 0, 0)] (by decide +kernel) rfl (by simp only [o2, Bool.and_true, Bool.true_and]) ?_
        refine XA.callV (as := [.int (tbV scr 4 (Int32.toNatClampNeg (x3 + 1)))]) (rest := []) (mc' := 0) (ms' := 0) (idx := 65) (t := 634) cv_X10_top (by decide +kernel) rfl rfl rfl (Nat.le_of_ble_eq_true rfl) (Nat.le_of_ble_eq_true rfl) (Nat.le_of_ble_eq_true rfl) (Nat.le_of_ble_eq_true rfl) (H) (fun rv h' hp => ?_)
        obtain ⟨r9, s9, rfl, rfl, hK⟩ := hp
        exact ⟨rfl, rfl, hK⟩
      · have H := H.2.2.2.2.2.2.2.2.2.2.2.2.2.1 e9
        obtain ⟨o2, H⟩ := H
        refine XA.blk (e9 := 523) (ok := inB (x3 + 1) scr.1 && (true)) (ls' := [some (.retAddr 4), some (.ref 0), some (.ref 136), some (.int x3)]) (st' := [.int (tbV scr 4 (Int32.toNatClampNeg (x3 + 1))), .ref 0]) (h' := hs σ) [(.aload_n 1, 1, 1, 0, 0, 0, 0, 0), (.aload_n 0, 1, 0, 0, 0, 0, 0, 0), (.iload_n 3, 1, 3, 0, 0, 0, 0, 0), (.iconst 1, 1, 0, 0, 0, 0, 1, 0), (.iadd, 1, 0, 0, 0, 0, 0, 0), (.iaload, 1, 0, 0, 0, 0, 0, 0)] (by decide +kernel) rfl (by simp only [o2, Bool.and_true, Bool.true_and]) ?_
        refine XA.callV (as := [.int (tbV scr 4 (Int32.toNatClampNeg (x3 + 1)))]) (rest := []) (mc' := 0) (ms' := 0) (idx := 69) (t := 639) cv_X10_most (by decide +kernel) rfl rfl rfl (Nat.le_of_ble_eq_true rfl) (Nat.le_of_ble_eq_true rfl) (Nat.le_of_ble_eq_true rfl) (Nat.le_of_ble_eq_true rfl) (H) (fun rv h' hp => ?_)
        obtain ⟨r9, s9, rfl, rfl, hK⟩ := hp
        exact ⟨rfl, rfl, hK⟩
      · have H := H.2.2.2.2.2.2.2.2.2.2.2.2.2.2.1 e9
        refine XA.blk (e9 := 541) (ok := true) (ls' := [some (.retAddr 4), some (.ref 0), some (.ref 136), some (.int x3)]) (st' := [.ref 0]) (h' := hs σ) [(.aload_n 1, 1, 1, 0, 0, 0, 0, 0)] (by decide +kernel) rfl rfl ?_
        refine XA.callV (as := []) (rest := []) (mc' := 0) (ms' := 0) (idx := 73) (t := 643) cv_X10_clumsy (by decide +kernel) rfl rfl rfl (Nat.le_of_ble_eq_true rfl) (Nat.le_of_ble_eq_true rfl) (Nat.le_of_ble_eq_true rfl) (Nat.le_of_ble_eq_true rfl) (H) (fun rv h' hp => ?_)
        obtain ⟨r9, s9, rfl, rfl, hK⟩ := hp
        exact ⟨rfl, rfl, hK⟩
      · have H := H.2.2.2.2.2.2.2.2.2.2.2.2.2.2.2.1 e9
        refine XA.blk (e9 := 554) (ok := true) (ls' := [some (.retAddr 4), some (.ref 0), some (.ref 136), some (.int x3)]) (st' := [.ref 0]) (h' := hs σ) [(.aload_n 1, 1, 1, 0, 0, 0, 0, 0)] (by decide +kernel) rfl rfl ?_
        refine XA.callV (as := []) (rest := []) (mc' := 0) (ms' := 0) (idx := 77) (t := 647) cv_X10_down (by decide +kernel) rfl rfl rfl (Nat.le_of_ble_eq_true rfl) (Nat.le_of_ble_eq_true rfl) (Nat.le_of_ble_eq_true rfl) (Nat.le_of_ble_eq_true rfl) (H) (fun rv h' hp => ?_)
        obtain ⟨r9, s9, rfl, rfl, hK⟩ := hp
        exact ⟨rfl, rfl, hK⟩
      · have H := H.2.2.2.2.2.2.2.2.2.2.2.2.2.2.2.2.1 e9
        obtain ⟨o2, H⟩ := H
        refine XA.blk (e9 := 572) (ok := inB (x3 + 1) scr.1 && (true)) (ls' := [some (.retAddr 4), some (.ref 0), some (.ref 136), some (.int x3)]) (st' := [.int (tbV scr 4 (Int32.toNatClampNeg (x3 + 1))), .ref 0]) (h' := hs σ) [(.aload_n 1, 1, 1, 0, 0, 0, 0, 0), (.aload_n 0, 1, 0, 0, 0, 0, 0, 0), (.iload_n 3, 1, 3, 0, 0, 0, 0, 0), (.iconst 1, 1, 0, 0, 0, 0, 1, 0), (.iadd, 1, 0, 0, 0, 0, 0, 0), (.iaload, 1, 0, 0, 0, 0, 0, 0)] (by decide +kernel) rfl (by simp only [o2, Bool.and_true, Bool.true_and]) ?_
        refine XA.callV (as := [.int (tbV scr 4 (Int32.toNatClampNeg (x3 + 1)))]) (rest := []) (mc' := 0) (ms' := 0) (idx := 81) (t := 651) cv_X10_swap (by decide +kernel) rfl rfl rfl (Nat.le_of_ble_eq_true rfl) (Nat.le_of_ble_eq_true rfl) (Nat.le_of_ble_eq_true rfl) (Nat.le_of_ble_eq_true rfl) (H) (fun rv h' hp => ?_)
        obtain ⟨r9, s9, rfl, rfl, hK⟩ := hp
        exact ⟨rfl, rfl, hK⟩
      · have H := H.2.2.2.2.2.2.2.2.2.2.2.2.2.2.2.2.2.1 e9
        obtain ⟨o2, o3, H⟩ := H
        refine XA.blk (e9 := 600) (ok := inB (x3 + 1) scr.1 && (inB (x3 + 2) scr.1 && (true))) (ls' := [some (.retAddr 4), some (.ref 0), some (.ref 136), some (.int x3)]) (st' := [.int (tbV scr 4 (Int32.toNatClampNeg (x3 + 2))), .int (tbV scr 4 (Int32.toNatClampNeg (x3 + 1))), .ref 0]) (h' := hs σ) [(.aload_n 1, 1, 1, 0, 0, 0, 0, 0), (.aload_n 0, 1, 0, 0, 0, 0, 0, 0), (.iload_n 3, 1, 3, 0, 0, 0, 0, 0), (.iconst 1, 1, 0, 0, 0, 0, 1, 0), (.iadd, 1, 0, 0, 0, 0, 0, 0), (.iaload, 1, 0, 0, 0, 0, 0, 0), (.aload_n 0, 1, 0, 0, 0, 0, 0, 0), (.iload_n 3, 1, 3, 0, 0, 0, 0, 0), (.iconst 2, 1, 0, 0, 0, 0, 2, 0), (.iadd, 1, 0, 0, 0, 0, 0, 0), (.iaload, 1, 0, 0, 0, 0, 0, 0)] (by decide +kernel) rfl (by simp only [o2, o3, Bool.and_true, Bool.true_and]) ?_
        refine XA.callV (as := [.int (tbV scr 4 (Int32.toNatClampNeg (x3 + 1))), .int (tbV scr 4 (Int32.toNatClampNeg (x3 + 2)))]) (rest := []) (mc' := 0) (ms' := 0) (idx := 85) (t := 685) cv_X10_come (by decide +kernel) rfl rfl rfl (Nat.le_of_ble_eq_true rfl) (Nat.le_of_ble_eq_true rfl) (Nat.le_of_ble_eq_true rfl) (Nat.le_of_ble_eq_true rfl) (H) (fun rv h' hp => ?_)
        obtain ⟨r9, s9, rfl, rfl, hK⟩ := hp
        exact ⟨rfl, rfl, hK⟩
      · have H := H.2.2.2.2.2.2.2.2.2.2.2.2.2.2.2.2.2.2.1 e9
        obtain ⟨o2, H⟩ := H
        refine XA.blk (e9 := 628) (ok := inB (x3 + 1) scr.1 && (true)) (ls' := [some (.retAddr 4), some (.ref 0), some (.ref 136), some (.int x3)]) (st' := [.int (tbV scr 4 (Int32.toNatClampNeg (x3 + 1))), .ref 0]) (h' := hs σ) [(.aload_n 1, 1, 1, 0, 0, 0, 0, 0), (.aload_n 0, 1, 0, 0, 0, 0, 0, 0), (.iload_n 3, 1, 3, 0, 0, 0, 0, 0), (.iconst 1, 1, 0, 0, 0, 0, 1, 0), (.iadd, 1, 0, 0, 0, 0, 0, 0), (.iaload, 1, 0, 0, 0, 0, 0, 0)] (by decide +kernel) rfl (by simp only [o2, Bool.and_true, Bool.true_and]) ?_
        refine XA.callV (as := [.int (tbV scr 4 (Int32.toNatClampNeg (x3 + 1)))]) (rest := []) (mc' := 0) (ms' := 0) (idx := 89) (t := 693) cv_X10_train (by decide +kernel) rfl rfl rfl (Nat.le_of_ble_eq_true rfl) (Nat.le_of_ble_eq_true rfl) (Nat.le_of_ble_eq_true rfl) (Nat.le_of_ble_eq_true rfl) (H) (fun rv h' hp => ?_)
        obtain ⟨r9, s9, rfl, rfl, hK⟩ := hp
        exact ⟨rfl, rfl, hK⟩
      · have H := H.2.2.2.2.2.2.2.2.2.2.2.2.2.2.2.2.2.2.2.1 e9
        obtain ⟨o2, H⟩ := H
        refine XA.blk (e9 := 651) (ok := inB (x3 + 1) scr.1 && (true)) (ls' := [some (.retAddr 4), some (.ref 0), some (.ref 136), some (.int x3)]) (st' := [.int (tbV scr 4 (Int32.toNatClampNeg (x3 + 1))), .ref 0]) (h' := hs σ) [(.aload_n 1, 1, 1, 0, 0, 0, 0, 0), (.aload_n 0, 1, 0, 0, 0, 0, 0, 0), (.iload_n 3, 1, 3, 0, 0, 0, 0, 0), (.iconst 1, 1, 0, 0, 0, 0, 1, 0), (.iadd, 1, 0, 0, 0, 0, 0, 0), (.iaload, 1, 0, 0, 0, 0, 0, 0)] (by decide +kernel) rfl (by simp only [o2, Bool.and_true, Bool.true_and]) ?_
        refine XA.callV (as := [.int (tbV scr 4 (Int32.toNatClampNeg (x3 + 1)))]) (rest := []) (mc' := 0) (ms' := 0) (idx := 93) (t := 702) cv_X10_spare (by decide +kernel) rfl rfl rfl (Nat.le_of_ble_eq_true rfl) (Nat.le_of_ble_eq_true rfl) (Nat.le_of_ble_eq_true rfl) (Nat.le_of_ble_eq_true rfl) (H) (fun rv h' hp => ?_)
        obtain ⟨r9, s9, rfl, rfl, hK⟩ := hp
        exact ⟨rfl, rfl, hK⟩
      · have H := H.2.2.2.2.2.2.2.2.2.2.2.2.2.2.2.2.2.2.2.2.1 e9
        obtain ⟨o2, o3, o4, H⟩ := H
        refine XA.blk (e9 := 684) (ok := inB (x3 + 1) scr.1 && (inB (x3 + 2) scr.1 && (inB (x3 + 3) scr.1 && (true)))) (ls' := [some (.retAddr 4), some (.ref 0), some (.ref 136), some (.int x3)]) (st' := [.int (tbV scr 4 (Int32.toNatClampNeg (x3 + 3))), .int (tbV scr 4 (Int32.toNatClampNeg (x3 + 2))), .int (tbV scr 4 (Int32.toNatClampNeg (x3 + 1))), .ref 0]) (h' := hs σ) [(.aload_n 1, 1, 1, 0, 0, 0, 0, 0), (.aload_n 0, 1, 0, 0, 0, 0, 0, 0), (.iload_n 3, 1, 3, 0, 0, 0, 0, 0), (.iconst 1, 1, 0, 0, 0, 0, 1, 0), (.iadd, 1, 0, 0, 0, 0, 0, 0), (.iaload, 1, 0, 0, 0, 0, 0, 0), (.aload_n 0, 1, 0, 0, 0, 0, 0, 0), (.iload_n 3, 1, 3, 0, 0, 0, 0, 0), (.iconst 2, 1, 0, 0, 0, 0, 2, 0), (.iadd, 1, 0, 0, 0, 0, 0, 0), (.iaload, 1, 0, 0, 0, 0, 0, 0), (.aload_n 0, 1, 0, 0, 0, 0, 0, 0), (.iload_n 3, 1, 3, 0, 0, 0, 0, 0), (.iconst 3, 1, 0, 0, 0, 0, 3, 0), (.iadd, 1, 0, 0, 0, 0, 0, 0), (.iaload, 1, 0, 0, 0, 0, 0, 0)] (by decide +kernel) rfl (by simp only [o2, o3, o4, Bool.and_true, Bool.true_and]) ?_
        refine XA.callV (as := [.int (tbV scr 4 (Int32.toNatClampNeg (x3 + 1))), .int (tbV scr 4 (Int32.toNatClampNeg (x3 + 2))), .int (tbV scr 4 (Int32.toNatClampNeg (x3 + 3)))]) (rest := []) (mc' := 0) (ms' := 0) (idx := 97) (t := 720) cv_X10_seen (by decide +kernel) rfl rfl rfl (Nat.le_of_ble_eq_true rfl) (Nat.le_of_ble_eq_true rfl) (Nat.le_of_ble_eq_true rfl) (Nat.le_of_ble_eq_true rfl) (H) (fun rv h' hp => ?_)
        obtain ⟨r9, s9, rfl, rfl, hK⟩ := hp
        exact ⟨rfl, rfl, hK⟩
      · have H := H.2.2.2.2.2.2.2.2.2.2.2.2.2.2.2.2.2.2.2.2.2.1 e9
        refine XA.blk (e9 := 712) (ok := true) (ls' := [some (.retAddr 4), some (.ref 0), some (.ref 136), some (.int x3)]) (st' := [.ref 0]) (h' := hs σ) [(.aload_n 1, 1, 1, 0, 0, 0, 0, 0)] (by decide +kernel) rfl rfl ?_
        refine XA.callV (as := []) (rest := []) (mc' := 0) (ms' := 0) (idx := 101) (t := 728) cv_X10_forget (by decide +kernel) rfl rfl rfl (Nat.le_of_ble_eq_true rfl) (Nat.le_of_ble_eq_true rfl) (Nat.le_of_ble_eq_true rfl) (Nat.le_of_ble_eq_true rfl) (H) (fun rv h' hp => ?_)
        obtain ⟨r9, s9, rfl, rfl, hK⟩ := hp
        exact ⟨rfl, rfl, hK⟩
      · have H := H.2.2.2.2.2.2.2.2.2.2.2.2.2.2.2.2.2.2.2.2.2.2.1 e9
        refine XA.blk (e9 := 725) (ok := true) (ls' := [some (.retAddr 4), some (.ref 0), some (.ref 136), some (.int x3)]) (st' := [.ref 0]) (h' := hs σ) [(.aload_n 1, 1, 1, 0, 0, 0, 0, 0)] (by decide +kernel) rfl rfl ?_
        refine XA.callV (as := []) (rest := []) (mc' := 0) (ms' := 0) (idx := 105) (t := 732) cv_X10_never (by decide +kernel) rfl rfl rfl (Nat.le_of_ble_eq_true rfl) (Nat.le_of_ble_eq_true rfl) (Nat.le_of_ble_eq_true rfl) (Nat.le_of_ble_eq_true rfl) (H) (fun rv h' hp => ?_)
        obtain ⟨r9, s9, rfl, rfl, hK⟩ := hp
        exact ⟨rfl, rfl, hK⟩
      · have H := H.2.2.2.2.2.2.2.2.2.2.2.2.2.2.2.2.2.2.2.2.2.2.2.1 e9
        obtain ⟨o2, o3, H⟩ := H
        refine XA.blk (e9 := 748) (ok := inB (x3 + 1) scr.1 && (inB (x3 + 2) scr.1 && (true))) (ls' := [some (.retAddr 4), some (.ref 0), some (.ref 136), some (.int x3)]) (st' := [.int (tbV scr 4 (Int32.toNatClampNeg (x3 + 2))), .int (tbV scr 4 (Int32.toNatClampNeg (x3 + 1))), .ref 0]) (h' := hs σ) [(.aload_n 1, 1, 1, 0, 0, 0, 0, 0), (.aload_n 0, 1, 0, 0, 0, 0, 0, 0), (.iload_n 3, 1, 3, 0, 0, 0, 0, 0), (.iconst 1, 1, 0, 0, 0, 0, 1, 0), (.iadd, 1, 0, 0, 0, 0, 0, 0), (.iaload, 1, 0, 0, 0, 0, 0, 0), (.aload_n 0, 1, 0, 0, 0, 0, 0, 0), (.iload_n 3, 1, 3, 0, 0, 0, 0, 0), (.iconst 2, 1, 0, 0, 0, 0, 2, 0), (.iadd, 1, 0, 0, 0, 0, 0, 0), (.iaload, 1, 0, 0, 0, 0, 0, 0)] (by decide +kernel) rfl (by simp only [o2, o3, Bool.and_true, Bool.true_and]) ?_
        refine XA.callV (as := [.int (tbV scr 4 (Int32.toNatClampNeg (x3 + 1))), .int (tbV scr 4 (Int32.toNatClampNeg (x3 + 2)))]) (rest := []) (mc' := 0) (ms' := 0) (idx := 109) (t := 747) cv_X10_was (by decide +kernel) rfl rfl rfl (Nat.le_of_ble_eq_true rfl) (Nat.le_of_ble_eq_true rfl) (Nat.le_of_ble_eq_true rfl) (Nat.le_of_ble_eq_true rfl) (H) (fun rv h' hp => ?_)
        obtain ⟨r9, s9, rfl, rfl, hK⟩ := hp
        exact ⟨rfl, rfl, hK⟩
      · have H := H.2.2.2.2.2.2.2.2.2.2.2.2.2.2.2.2.2.2.2.2.2.2.2.2.1 e9
        obtain ⟨o2, H⟩ := H
        refine XA.blk (e9 := 776) (ok := inB (x3 + 1) scr.1 && (true)) (ls' := [some (.retAddr 4), some (.ref 0), some (.ref 136), some (.int x3)]) (st' := [.int (tbV scr 4 (Int32.toNatClampNeg (x3 + 1))), .ref 0]) (h' := hs σ) [(.aload_n 1, 1, 1, 0, 0, 0, 0, 0), (.aload_n 0, 1, 0, 0, 0, 0, 0, 0), (.iload_n 3, 1, 3, 0, 0, 0, 0, 0), (.iconst 1, 1, 0, 0, 0, 0, 1, 0), (.iadd, 1, 0, 0, 0, 0, 0, 0), (.iaload, 1, 0, 0, 0, 0, 0, 0)] (by decide +kernel) rfl (by simp only [o2, Bool.and_true, Bool.true_and]) ?_
        refine XA.callV (as := [.int (tbV scr 4 (Int32.toNatClampNeg (x3 + 1)))]) (rest := []) (mc' := 0) (ms' := 0) (idx := 113) (t := 771) cv_X10_ask (by decide +kernel) rfl rfl rfl (Nat.le_of_ble_eq_true rfl) (Nat.le_of_ble_eq_true rfl) (Nat.le_of_ble_eq_true rfl) (Nat.le_of_ble_eq_true rfl) (H) (fun rv h' hp => ?_)
        obtain ⟨r9, s9, rfl, rfl, hK⟩ := hp
        exact ⟨rfl, rfl, hK⟩
      · have H := H.2.2.2.2.2.2.2.2.2.2.2.2.2.2.2.2.2.2.2.2.2.2.2.2.2.1 e9
        obtain ⟨o2, o3, o4, H⟩ := H
        refine XA.blk (e9 := 809) (ok := inB (x3 + 1) scr.1 && (inB (x3 + 2) scr.1 && (inB (x3 + 3) scr.1 && (true)))) (ls' := [some (.retAddr 4), some (.ref 0), some (.ref 136), some (.int x3)]) (st' := [.int (tbV scr 4 (Int32.toNatClampNeg (x3 + 3))), .int (tbV scr 4 (Int32.toNatClampNeg (x3 + 2))), .int (tbV scr 4 (Int32.toNatClampNeg (x3 + 1))), .ref 0]) (h' := hs σ) [(.aload_n 1, 1, 1, 0, 0, 0, 0, 0), (.aload_n 0, 1, 0, 0, 0, 0, 0, 0), (.iload_n 3, 1, 3, 0, 0, 0, 0, 0), (.iconst 1, 1, 0, 0, 0, 0, 1, 0), (.iadd, 1, 0, 0, 0, 0, 0, 0), (.iaload, 1, 0, 0, 0, 0, 0, 0), (.aload_n 0, 1, 0, 0, 0, 0, 0, 0), (.iload_n 3, 1, 3, 0, 0, 0, 0, 0), (.iconst 2, 1, 0, 0, 0, 0, 2, 0), (.iadd, 1, 0, 0, 0, 0, 0, 0), (.iaload, 1, 0, 0, 0, 0, 0, 0), (.aload_n 0, 1, 0, 0, 0, 0, 0, 0), (.iload_n 3, 1, 3, 0, 0, 0, 0, 0), (.iconst 3, 1, 0, 0, 0, 0, 3, 0), (.iadd, 1, 0, 0, 0, 0, 0, 0), (.iaload, 1, 0, 0, 0, 0, 0, 0)] (by decide +kernel) rfl (by simp only [o2, o3, o4, Bool.and_true, Bool.true_and]) ?_
        refine XA.callV (as := [.int (tbV scr 4 (Int32.toNatClampNeg (x3 + 1))), .int (tbV scr 4 (Int32.toNatClampNeg (x3 + 2))), .int (tbV scr 4 (Int32.toNatClampNeg (x3 + 3)))]) (rest := []) (mc' := 0) (ms' := 0) (idx := 117) (t := 775) cv_X10_chance (by decide +kernel) rfl rfl rfl (Nat.le_of_ble_eq_true rfl) (Nat.le_of_ble_eq_true rfl) (Nat.le_of_ble_eq_true rfl) (Nat.le_of_ble_eq_true rfl) (H) (fun rv h' hp => ?_)
        obtain ⟨r9, s9, rfl, rfl, hK⟩ := hp
        exact ⟨rfl, rfl, hK⟩
      · have H := H.2.2.2.2.2.2.2.2.2.2.2.2.2.2.2.2.2.2.2.2.2.2.2.2.2.2.1 e9
        obtain ⟨o2, o3, o4, H⟩ := H
        refine XA.blk (e9 := 853) (ok := inB (x3 + 1) scr.1 && (inB (x3 + 2) scr.1 && (inB (x3 + 3) scr.1 && (true)))) (ls' := [some (.retAddr 4), some (.ref 0), some (.ref 136), some (.int x3)]) (st' := [.int (tbV scr 4 (Int32.toNatClampNeg (x3 + 3))), .int (tbV scr 4 (Int32.toNatClampNeg (x3 + 2))), .int (tbV scr 4 (Int32.toNatClampNeg (x3 + 1))), .ref 0]) (h' := hs σ) [(.aload_n 1, 1, 1, 0, 0, 0, 0, 0), (.aload_n 0, 1, 0, 0, 0, 0, 0, 0), (.iload_n 3, 1, 3, 0, 0, 0, 0, 0), (.iconst 1, 1, 0, 0, 0, 0, 1, 0), (.iadd, 1, 0, 0, 0, 0, 0, 0), (.iaload, 1, 0, 0, 0, 0, 0, 0), (.aload_n 0, 1, 0, 0, 0, 0, 0, 0), (.iload_n 3, 1, 3, 0, 0, 0, 0, 0), (.iconst 2, 1, 0, 0, 0, 0, 2, 0), (.iadd, 1, 0, 0, 0, 0, 0, 0), (.iaload, 1, 0, 0, 0, 0, 0, 0), (.aload_n 0, 1, 0, 0, 0, 0, 0, 0), (.iload_n 3, 1, 3, 0, 0, 0, 0, 0), (.iconst 3, 1, 0, 0, 0, 0, 3, 0), (.iadd, 1, 0, 0, 0, 0, 0, 0), (.iaload, 1, 0, 0, 0, 0, 0, 0)] (by decide +kernel) rfl (by simp only [o2, o3, o4, Bool.and_true, Bool.true_and]) ?_
        refine XA.callV (as := [.int (tbV scr 4 (Int32.toNatClampNeg (x3 + 1))), .int (tbV scr 4 (Int32.toNatClampNeg (x3 + 2))), .int (tbV scr 4 (Int32.toNatClampNeg (x3 + 3)))]) (rest := []) (mc' := 0) (ms' := 0) (idx := 122) (t := 789) cv_X10_years (by decide +kernel) rfl rfl rfl (Nat.le_of_ble_eq_true rfl) (Nat.le_of_ble_eq_true rfl) (Nat.le_of_ble_eq_true rfl) (Nat.le_of_ble_eq_true rfl) (H) (fun rv h' hp => ?_)
        obtain ⟨r9, s9, rfl, rfl, hK⟩ := hp
        exact ⟨rfl, rfl, hK⟩
      · have H := H.2.2.2.2.2.2.2.2.2.2.2.2.2.2.2.2.2.2.2.2.2.2.2.2.2.2.2.1 e9
        obtain ⟨o2, o3, o4, H⟩ := H
        refine XA.blk (e9 := 896) (ok := inB (x3 + 1) scr.1 && (inB (x3 + 2) scr.1 && (inB (x3 + 3) scr.1 && (true)))) (ls' := [some (.retAddr 4), some (.ref 0), some (.ref 136), some (.int x3)]) (st' := [.int (tbV scr 4 (Int32.toNatClampNeg (x3 + 3))), .int (tbV scr 4 (Int32.toNatClampNeg (x3 + 2))), .int (tbV scr 4 (Int32.toNatClampNeg (x3 + 1))), .ref 0]) (h' := hs σ) [(.aload_n 1, 1, 1, 0, 0, 0, 0, 0), (.aload_n 0, 1, 0, 0, 0, 0, 0, 0), (.iload_n 3, 1, 3, 0, 0, 0, 0, 0), (.iconst 1, 1, 0, 0, 0, 0, 1, 0), (.iadd, 1, 0, 0, 0, 0, 0, 0), (.iaload, 1, 0, 0, 0, 0, 0, 0), (.aload_n 0, 1, 0, 0, 0, 0, 0, 0), (.iload_n 3, 1, 3, 0, 0, 0, 0, 0), (.iconst 2, 1, 0, 0, 0, 0, 2, 0), (.iadd, 1, 0, 0, 0, 0, 0, 0), (.iaload, 1, 0, 0, 0, 0, 0, 0), (.aload_n 0, 1, 0, 0, 0, 0, 0, 0), (.iload_n 3, 1, 3, 0, 0, 0, 0, 0), (.iconst 3, 1, 0, 0, 0, 0, 3, 0), (.iadd, 1, 0, 0, 0, 0, 0, 0), (.iaload, 1, 0, 0, 0, 0, 0, 0)] (by decide +kernel) rfl (by simp only [o2, o3, o4, Bool.and_true, Bool.true_and]) ?_
        refine XA.callV (as := [.int (tbV scr 4 (Int32.toNatClampNeg (x3 + 1))), .int (tbV scr 4 (Int32.toNatClampNeg (x3 + 2))), .int (tbV scr 4 (Int32.toNatClampNeg (x3 + 3)))]) (rest := []) (mc' := 0) (ms' := 0) (idx := 126) (t := 802) cv_X10_sheet (by decide +kernel) rfl rfl rfl (Nat.le_of_ble_eq_true rfl) (Nat.le_of_ble_eq_true rfl) (Nat.le_of_ble_eq_true rfl) (Nat.le_of_ble_eq_true rfl) (H) (fun rv h' hp => ?_)
        obtain ⟨r9, s9, rfl, rfl, hK⟩ := hp
        exact ⟨rfl, rfl, hK⟩
      · have H := H.2.2.2.2.2.2.2.2.2.2.2.2.2.2.2.2.2.2.2.2.2.2.2.2.2.2.2.2.1 e9
        obtain ⟨o2, H⟩ := H
        refine XA.blk (e9 := 929) (ok := inB (x3 + 1) scr.1 && (true)) (ls' := [some (.retAddr 4), some (.ref 0), some (.ref 136), some (.int x3)]) (st' := [.int (tbV scr 4 (Int32.toNatClampNeg (x3 + 1))), .ref 0]) (h' := hs σ) [(.aload_n 1, 1, 1, 0, 0, 0, 0, 0), (.aload_n 0, 1, 0, 0, 0, 0, 0, 0), (.iload_n 3, 1, 3, 0, 0, 0, 0, 0), (.iconst 1, 1, 0, 0, 0, 0, 1, 0), (.iadd, 1, 0, 0, 0, 0, 0, 0), (.iaload, 1, 0, 0, 0, 0, 0, 0)] (by decide +kernel) rfl (by simp only [o2, Bool.and_true, Bool.true_and]) ?_
        refine XA.callV (as := [.int (tbV scr 4 (Int32.toNatClampNeg (x3 + 1)))]) (rest := []) (mc' := 0) (ms' := 0) (idx := 130) (t := 813) cv_X10_lose (by decide +kernel) rfl rfl rfl (Nat.le_of_ble_eq_true rfl) (Nat.le_of_ble_eq_true rfl) (Nat.le_of_ble_eq_true rfl) (Nat.le_of_ble_eq_true rfl) (H) (fun rv h' hp => ?_)
        obtain ⟨r9, s9, rfl, rfl, hK⟩ := hp
        exact ⟨rfl, rfl, hK⟩
      · have H := H.2.2.2.2.2.2.2.2.2.2.2.2.2.2.2.2.2.2.2.2.2.2.2.2.2.2.2.2.2.1 e9
        obtain ⟨o2, o3, o4, o5, H⟩ := H
        refine XA.blk (e9 := 967) (ok := inB (x3 + 1) scr.1 && (inB (x3 + 2) scr.1 && (inB (x3 + 3) scr.1 && (inB (x3 + 4) scr.1 && (true))))) (ls' := [some (.retAddr 4), some (.ref 0), some (.ref 136), some (.int x3)]) (st' := [.int (tbV scr 4 (Int32.toNatClampNeg (x3 + 4))), .int (tbV scr 4 (Int32.toNatClampNeg (x3 + 3))), .int (tbV scr 4 (Int32.toNatClampNeg (x3 + 2))), .int (tbV scr 4 (Int32.toNatClampNeg (x3 + 1))), .ref 0]) (h' := hs σ) [(.aload_n 1, 1, 1, 0, 0, 0, 0, 0), (.aload_n 0, 1, 0, 0, 0, 0, 0, 0), (.iload_n 3, 1, 3, 0, 0, 0, 0, 0), (.iconst 1, 1, 0, 0, 0, 0, 1, 0), (.iadd, 1, 0, 0, 0, 0, 0, 0), (.iaload, 1, 0, 0, 0, 0, 0, 0), (.aload_n 0, 1, 0, 0, 0, 0, 0, 0), (.iload_n 3, 1, 3, 0, 0, 0, 0, 0), (.iconst 2, 1, 0, 0, 0, 0, 2, 0), (.iadd, 1, 0, 0, 0, 0, 0, 0), (.iaload, 1, 0, 0, 0, 0, 0, 0), (.aload_n 0, 1, 0, 0, 0, 0, 0, 0), (.iload_n 3, 1, 3, 0, 0, 0, 0, 0), (.iconst 3, 1, 0, 0, 0, 0, 3, 0), (.iadd, 1, 0, 0, 0, 0, 0, 0), (.iaload, 1, 0, 0, 0, 0, 0, 0), (.aload_n 0, 1, 0, 0, 0, 0, 0, 0), (.iload_n 3, 1, 3, 0, 0, 0, 0, 0), (.iconst 4, 1, 0, 0, 0, 0, 4, 0), (.iadd, 1, 0, 0, 0, 0, 0, 0), (.iaload, 1, 0, 0, 0, 0, 0, 0)] (by decide +kernel) rfl (by simp only [o2, o3, o4, o5, Bool.and_true, Bool.true_and]) ?_
        refine XA.callV (as := [.int (tbV scr 4 (Int32.toNatClampNeg (x3 + 1))), .int (tbV scr 4 (Int32.toNatClampNeg (x3 + 2))), .int (tbV scr 4 (Int32.toNatClampNeg (x3 + 3))), .int (tbV scr 4 (Int32.toNatClampNeg (x3 + 4)))]) (rest := []) (mc' := 0) (ms' := 0) (idx := 134) (t := 817) cv_X10_put (by decide +kernel) rfl rfl rfl (Nat.le_of_ble_eq_true rfl) (Nat.le_of_ble_eq_true rfl) (Nat.le_of_ble_eq_true rfl) (Nat.le_of_ble_eq_true rfl) (H) (fun rv h' hp => ?_)
        obtain ⟨r9, s9, rfl, rfl, hK⟩ := hp
        exact ⟨rfl, rfl, hK⟩
      · have H := H.2.2.2.2.2.2.2.2.2.2.2.2.2.2.2.2.2.2.2.2.2.2.2.2.2.2.2.2.2.2.1 e9
        obtain ⟨o2, o3, o4, H⟩ := H
        refine XA.blk (e9 := 1015) (ok := inB (x3 + 1) scr.1 && (inB (x3 + 2) scr.1 && (inB (x3 + 3) scr.1 && (true)))) (ls' := [some (.retAddr 4), some (.ref 0), some (.ref 136), some (.int x3)]) (st' := [.int (tbV scr 4 (Int32.toNatClampNeg (x3 + 3))), .int (tbV scr 4 (Int32.toNatClampNeg (x3 + 2))), .int (tbV scr 4 (Int32.toNatClampNeg (x3 + 1))), .ref 0]) (h' := hs σ) [(.aload_n 1, 1, 1, 0, 0, 0, 0, 0), (.aload_n 0, 1, 0, 0, 0, 0, 0, 0), (.iload_n 3, 1, 3, 0, 0, 0, 0, 0), (.iconst 1, 1, 0, 0, 0, 0, 1, 0), (.iadd, 1, 0, 0, 0, 0, 0, 0), (.iaload, 1, 0, 0, 0, 0, 0, 0), (.aload_n 0, 1, 0, 0, 0, 0, 0, 0), (.iload_n 3, 1, 3, 0, 0, 0, 0, 0), (.iconst 2, 1, 0, 0, 0, 0, 2, 0), (.iadd, 1, 0, 0, 0, 0, 0, 0), (.iaload, 1, 0, 0, 0, 0, 0, 0), (.aload_n 0, 1, 0, 0, 0, 0, 0, 0), (.iload_n 3, 1, 3, 0, 0, 0, 0, 0), (.iconst 3, 1, 0, 0, 0, 0, 3, 0), (.iadd, 1, 0, 0, 0, 0, 0, 0), (.iaload, 1, 0, 0, 0, 0, 0, 0)] (by decide +kernel) rfl (by simp only [o2, o3, o4, Bool.and_true, Bool.true_and]) ?_
        refine XA.callV (as := [.int (tbV scr 4 (Int32.toNatClampNeg (x3 + 1))), .int (tbV scr 4 (Int32.toNatClampNeg (x3 + 2))), .int (tbV scr 4 (Int32.toNatClampNeg (x3 + 3)))]) (rest := []) (mc' := 0) (ms' := 0) (idx := 139) (t := 829) cv_X10_get (by decide +kernel) rfl rfl rfl (Nat.le_of_ble_eq_true rfl) (Nat.le_of_ble_eq_true rfl) (Nat.le_of_ble_eq_true rfl) (Nat.le_of_ble_eq_true rfl) (H) (fun rv h' hp => ?_)
        obtain ⟨r9, s9, rfl, rfl, hK⟩ := hp
        exact ⟨rfl, rfl, hK⟩
      · have H := H.2.2.2.2.2.2.2.2.2.2.2.2.2.2.2.2.2.2.2.2.2.2.2.2.2.2.2.2.2.2.2.1 e9
        obtain ⟨o2, o3, o4, o5, o6, H⟩ := H
        refine XA.blk (e9 := 1068) (ok := inB (x3 + 1) scr.1 && (inB (x3 + 2) scr.1 && (inB (x3 + 3) scr.1 && (inB (x3 + 4) scr.1 && (inB (x3 + 5) scr.1 && (true)))))) (ls' := [some (.retAddr 4), some (.ref 0), some (.ref 136), some (.int x3)]) (st' := [.int (tbV scr 4 (Int32.toNatClampNeg (x3 + 5))), .int (tbV scr 4 (Int32.toNatClampNeg (x3 + 4))), .int (tbV scr 4 (Int32.toNatClampNeg (x3 + 3))), .int (tbV scr 4 (Int32.toNatClampNeg (x3 + 2))), .int (tbV scr 4 (Int32.toNatClampNeg (x3 + 1))), .ref 0]) (h' := hs σ) [(.aload_n 1, 1, 1, 0, 0, 0, 0, 0), (.aload_n 0, 1, 0, 0, 0, 0, 0, 0), (.iload_n 3, 1, 3, 0, 0, 0, 0, 0), (.iconst 1, 1, 0, 0, 0, 0, 1, 0), (.iadd, 1, 0, 0, 0, 0, 0, 0), (.iaload, 1, 0, 0, 0, 0, 0, 0), (.aload_n 0, 1, 0, 0, 0, 0, 0, 0), (.iload_n 3, 1, 3, 0, 0, 0, 0, 0), (.iconst 2, 1, 0, 0, 0, 0, 2, 0), (.iadd, 1, 0, 0, 0, 0, 0, 0), (.iaload, 1, 0, 0, 0, 0, 0, 0), (.aload_n 0, 1, 0, 0, 0, 0, 0, 0), (.iload_n 3, 1, 3, 0, 0, 0, 0, 0), (.iconst 3, 1, 0, 0, 0, 0, 3, 0), (.iadd, 1, 0, 0, 0, 0, 0, 0), (.iaload, 1, 0, 0, 0, 0, 0, 0), (.aload_n 0, 1, 0, 0, 0, 0, 0, 0), (.iload_n 3, 1, 3, 0, 0, 0, 0, 0), (.iconst 4, 1, 0, 0, 0, 0, 4, 0), (.iadd, 1, 0, 0, 0, 0, 0, 0), (.iaload, 1, 0, 0, 0, 0, 0, 0), (.aload_n 0, 1, 0, 0, 0, 0, 0, 0), (.iload_n 3, 1, 3, 0, 0, 0, 0, 0), (.iconst 5, 1, 0, 0, 0, 0, 5, 0), (.iadd, 1, 0, 0, 0, 0, 0, 0), (.iaload, 1, 0, 0, 0, 0, 0, 0)] (by decide +kernel) rfl (by simp only [o2, o3, o4, o5, o6, Bool.and_true, Bool.true_and]) ?_
        refine XA.callV (as := [.int (tbV scr 4 (Int32.toNatClampNeg (x3 + 1))), .int (tbV scr 4 (Int32.toNatClampNeg (x3 + 2))), .int (tbV scr 4 (Int32.toNatClampNeg (x3 + 3))), .int (tbV scr 4 (Int32.toNatClampNeg (x3 + 4))), .int (tbV scr 4 (Int32.toNatClampNeg (x3 + 5)))]) (rest := []) (mc' := 0) (ms' := 0) (idx := 143) (t := 834) cv_X10_copy (by decide +kernel) rfl rfl rfl (Nat.le_of_ble_eq_true rfl) (Nat.le_of_ble_eq_true rfl) (Nat.le_of_ble_eq_true rfl) (Nat.le_of_ble_eq_true rfl) (H) (fun rv h' hp => ?_)
        obtain ⟨r9, s9, rfl, rfl, hK⟩ := hp
        exact ⟨rfl, rfl, hK⟩
      · have H := H.2.2.2.2.2.2.2.2.2.2.2.2.2.2.2.2.2.2.2.2.2.2.2.2.2.2.2.2.2.2.2.2.1 e9
        obtain ⟨o2, o3, H⟩ := H
        refine XA.blk (e9 := 1116) (ok := inB (x3 + 1) scr.1 && (inB (x3 + 2) scr.1 && (true))) (ls' := [some (.retAddr 4), some (.ref 0), some (.ref 136), some (.int x3)]) (st' := [.int (tbV scr 4 (Int32.toNatClampNeg (x3 + 2))), .int (tbV scr 4 (Int32.toNatClampNeg (x3 + 1))), .ref 0]) (h' := hs σ) [(.aload_n 1, 1, 1, 0, 0, 0, 0, 0), (.aload_n 0, 1, 0, 0, 0, 0, 0, 0), (.iload_n 3, 1, 3, 0, 0, 0, 0, 0), (.iconst 1, 1, 0, 0, 0, 0, 1, 0), (.iadd, 1, 0, 0, 0, 0, 0, 0), (.iaload, 1, 0, 0, 0, 0, 0, 0), (.aload_n 0, 1, 0, 0, 0, 0, 0, 0), (.iload_n 3, 1, 3, 0, 0, 0, 0, 0), (.iconst 2, 1, 0, 0, 0, 0, 2, 0), (.iadd, 1, 0, 0, 0, 0, 0, 0), (.iaload, 1, 0, 0, 0, 0, 0, 0)] (by decide +kernel) rfl (by simp only [o2, o3, Bool.and_true, Bool.true_and]) ?_
        refine XA.callV (as := [.int (tbV scr 4 (Int32.toNatClampNeg (x3 + 1))), .int (tbV scr 4 (Int32.toNatClampNeg (x3 + 2)))]) (rest := []) (mc' := 0) (ms' := 0) (idx := 148) (t := 843) cv_X10_write (by decide +kernel) rfl rfl rfl (Nat.le_of_ble_eq_true rfl) (Nat.le_of_ble_eq_true rfl) (Nat.le_of_ble_eq_true rfl) (Nat.le_of_ble_eq_true rfl) (H) (fun rv h' hp => ?_)
        obtain ⟨r9, s9, rfl, rfl, hK⟩ := hp
        exact ⟨rfl, rfl, hK⟩
      · have H := H.2.2.2.2.2.2.2.2.2.2.2.2.2.2.2.2.2.2.2.2.2.2.2.2.2.2.2.2.2.2.2.2.2.1 e9
        obtain ⟨o2, H⟩ := H
        refine XA.blk (e9 := 1144) (ok := inB (x3 + 1) scr.1 && (true)) (ls' := [some (.retAddr 4), some (.ref 0), some (.ref 136), some (.int x3)]) (st' := [.int (tbV scr 4 (Int32.toNatClampNeg (x3 + 1))), .ref 0]) (h' := hs σ) [(.aload_n 1, 1, 1, 0, 0, 0, 0, 0), (.aload_n 0, 1, 0, 0, 0, 0, 0, 0), (.iload_n 3, 1, 3, 0, 0, 0, 0, 0), (.iconst 1, 1, 0, 0, 0, 0, 1, 0), (.iadd, 1, 0, 0, 0, 0, 0, 0), (.iaload, 1, 0, 0, 0, 0, 0, 0)] (by decide +kernel) rfl (by simp only [o2, Bool.and_true, Bool.true_and]) ?_
        refine XA.callV (as := [.int (tbV scr 4 (Int32.toNatClampNeg (x3 + 1)))]) (rest := []) (mc' := 0) (ms' := 0) (idx := 152) (t := 849) cv_X10_count (by decide +kernel) rfl rfl rfl (Nat.le_of_ble_eq_true rfl) (Nat.le_of_ble_eq_true rfl) (Nat.le_of_ble_eq_true rfl) (Nat.le_of_ble_eq_true rfl) (H) (fun rv h' hp => ?_)
        obtain ⟨r9, s9, rfl, rfl, hK⟩ := hp
        exact ⟨rfl, rfl, hK⟩
      · have H := H.2.2.2.2.2.2.2.2.2.2.2.2.2.2.2.2.2.2.2.2.2.2.2.2.2.2.2.2.2.2.2.2.2.2.1 e9
        refine XA.blk (e9 := 1162) (ok := true) (ls' := [some (.retAddr 4), some (.ref 0), some (.ref 136), some (.int x3)]) (st' := [.ref 0]) (h' := hs σ) [(.aload_n 1, 1, 1, 0, 0, 0, 0, 0)] (by decide +kernel) rfl rfl ?_
        refine XA.callV (as := []) (rest := []) (mc' := 0) (ms' := 0) (idx := 156) (t := 855) cv_X10_digest (by decide +kernel) rfl rfl rfl (Nat.le_of_ble_eq_true rfl) (Nat.le_of_ble_eq_true rfl) (Nat.le_of_ble_eq_true rfl) (Nat.le_of_ble_eq_true rfl) (H) (fun rv h' hp => ?_)
        obtain ⟨r9, s9, rfl, rfl, hK⟩ := hp
        exact ⟨rfl, rfl, hK⟩
    · have H := H.2.2.2.2.2.2.2.2.2.2.2.2.2.2.2.2.2.2.2.2.2.2.2.2.2.2.2.2.2.2.2.2.2.2.2 (e9 (0, 188) (by simp)) (e9 (1, 211) (by simp)) (e9 (2, 224) (by simp)) (e9 (3, 237) (by simp)) (e9 (4, 250) (by simp)) (e9 (5, 283) (by simp)) (e9 (6, 326) (by simp)) (e9 (7, 339) (by simp)) (e9 (8, 362) (by simp)) (e9 (9, 405) (by simp)) (e9 (10, 438) (by simp)) (e9 (11, 471) (by simp)) (e9 (12, 494) (by simp)) (e9 (13, 517) (by simp)) (e9 (14, 540) (by simp)) (e9 (15, 553) (by simp)) (e9 (16, 566) (by simp)) (e9 (17, 589) (by simp)) (e9 (18, 622) (by simp)) (e9 (19, 645) (by simp)) (e9 (20, 668) (by simp)) (e9 (21, 711) (by simp)) (e9 (22, 724) (by simp)) (e9 (23, 737) (by simp)) (e9 (24, 770) (by simp)) (e9 (25, 793) (by simp)) (e9 (26, 837) (by simp)) (e9 (27, 880) (by simp)) (e9 (28, 923) (by simp)) (e9 (29, 946) (by simp)) (e9 (30, 999) (by simp)) (e9 (31, 1042) (by simp)) (e9 (32, 1105) (by simp)) (e9 (33, 1138) (by simp)) (e9 (34, 1161) (by simp))
      refine XA.blk (e9 := 18) (ok := true) (ls' := [some (.retAddr 4), some (.ref 0), some (.ref 136), some (.int (x3 + 6))]) (st' := []) (h' := hs σ) [(.iinc 3 6, 3, 3, 0, 0, 0, 6, 0), (.goto (-1160), 3, 18, 0, 0, 0, 0, 0)] (by decide +kernel) rfl rfl ?_
      exact H
set_option maxRecDepth 20000 in
theorem W_L_law_197 {scr : ScA}   {x3 : Int32} {y0 : Int32}  {σ : Nat → Nat → Int32} {P : Int32 → (Nat → Nat → Int32) → Prop} (H : (inB (x3 + 1) scr.1 = true) ∧ (CiA scr 1 mX11_type [.ref 136, .int (tbV scr 4 (Int32.toNatClampNeg (x3 + 1)))] σ (fun r9 σ' => K_L_law_206 scr x3 y0 r9 σ' P))) : K_L_law_197 scr x3 y0 σ P := by
  show XA scr 11 mL 172 4705 197 [some (.retAddr 4), some (.ref 0), some (.ref 136), some (.int x3)] [.int y0] (hs σ) (pI P)
  obtain ⟨o1, H⟩ := H
  refine XA.blk (e9 := 203) (ok := inB (x3 + 1) scr.1 && (true)) (ls' := [some (.retAddr 4), some (.ref 0), some (.ref 136), some (.int x3)]) (st' := [.int (tbV scr 4 (Int32.toNatClampNeg (x3 + 1))), .ref 136, .int y0]) (h' := hs σ) [(.aload_n 2, 1, 2, 0, 0, 0, 0, 0), (.aload_n 0, 1, 0, 0, 0, 0, 0, 0), (.iload_n 3, 1, 3, 0, 0, 0, 0, 0), (.iconst 1, 1, 0, 0, 0, 0, 1, 0), (.iadd, 1, 0, 0, 0, 0, 0, 0), (.iaload, 1, 0, 0, 0, 0, 0, 0)] (by decide +kernel) rfl (by simp only [o1, Bool.and_true, Bool.true_and]) ?_
  refine XA.callV (as := [.int (tbV scr 4 (Int32.toNatClampNeg (x3 + 1)))]) (rest := [.int y0]) (mc' := 0) (ms' := 0) (idx := 17) (t := 1057) cv_X11_type (by decide +kernel) rfl rfl rfl (Nat.le_of_ble_eq_true rfl) (Nat.le_of_ble_eq_true rfl) (Nat.le_of_ble_eq_true rfl) (Nat.le_of_ble_eq_true rfl) (H) (fun rv h' hp => ?_)
  obtain ⟨r9, s9, rfl, rfl, hK⟩ := hp
  exact ⟨rfl, rfl, hK⟩
set_option maxRecDepth 20000 in
theorem W_L_law_206 {scr : ScA}   {x3 : Int32} {y0 : Int32} {y1 : Int32}  {σ : Nat → Nat → Int32} {P : Int32 → (Nat → Nat → Int32) → Prop} (H : (y0 = y1 → K_L_law_18 scr (x3 + 6) σ P) ∧ (¬ y0 = y1 → P 0 σ)) : K_L_law_206 scr x3 y0 y1 σ P := by
  show XA scr 11 mL 172 4705 206 [some (.retAddr 4), some (.ref 0), some (.ref 136), some (.int x3)] [.int y1, .int y0] (hs σ) (pI P)
  refine XA.icmp_eq (969) 1175 (by decide +kernel) (fun c1 => ?_) (fun c1 => ?_)
  · have H := H.1 c1
    refine XA.blk (e9 := 18) (ok := true) (ls' := [some (.retAddr 4), some (.ref 0), some (.ref 136), some (.int (x3 + 6))]) (st' := []) (h' := hs σ) [(.iinc 3 6, 3, 3, 0, 0, 0, 6, 0), (.goto (-1160), 3, 18, 0, 0, 0, 0, 0)] (by decide +kernel) rfl rfl ?_
    exact H
  · have H := H.2 c1
    refine XA.blk (e9 := 210) (ok := true) (ls' := [some (.retAddr 4), some (.ref 0), some (.ref 136), some (.int x3)]) (st' := [.int 0]) (h' := hs σ) [(.iconst 0, 1, 0, 0, 0, 0, 0, 0)] (by decide +kernel) rfl rfl ?_
    exact XA.ret (some (.int 0)) rfl (show ckRt mL 210 .ireturn = true by decide +kernel) (Or.inl rfl) (Nat.le_of_ble_eq_true rfl) (Nat.le_of_ble_eq_true rfl) ⟨_, _, rfl, rfl, H⟩
set_option maxRecDepth 20000 in
theorem W_L_law_215 {scr : ScA}   {x3 : Int32} {y0 : Int32}  {σ : Nat → Nat → Int32} {P : Int32 → (Nat → Nat → Int32) → Prop} (H : CiA scr 0 mX11_wipe [.ref 136] σ (fun r9 σ' => K_L_law_219 scr x3 y0 r9 σ' P)) : K_L_law_215 scr x3 y0 σ P := by
  show XA scr 11 mL 172 4705 215 [some (.retAddr 4), some (.ref 0), some (.ref 136), some (.int x3)] [.int y0] (hs σ) (pI P)
  refine XA.blk (e9 := 216) (ok := true) (ls' := [some (.retAddr 4), some (.ref 0), some (.ref 136), some (.int x3)]) (st' := [.ref 136, .int y0]) (h' := hs σ) [(.aload_n 2, 1, 2, 0, 0, 0, 0, 0)] (by decide +kernel) rfl rfl ?_
  refine XA.callV (as := []) (rest := [.int y0]) (mc' := 0) (ms' := 0) (idx := 22) (t := 1064) cv_X11_wipe (by decide +kernel) rfl rfl rfl (Nat.le_of_ble_eq_true rfl) (Nat.le_of_ble_eq_true rfl) (Nat.le_of_ble_eq_true rfl) (Nat.le_of_ble_eq_true rfl) (H) (fun rv h' hp => ?_)
  obtain ⟨r9, s9, rfl, rfl, hK⟩ := hp
  exact ⟨rfl, rfl, hK⟩
set_option maxRecDepth 20000 in
theorem W_L_law_219 {scr : ScA}   {x3 : Int32} {y0 : Int32} {y1 : Int32}  {σ : Nat → Nat → Int32} {P : Int32 → (Nat → Nat → Int32) → Prop} (H : (y0 = y1 → K_L_law_18 scr (x3 + 6) σ P) ∧ (¬ y0 = y1 → P 0 σ)) : K_L_law_219 scr x3 y0 y1 σ P := by
  show XA scr 11 mL 172 4705 219 [some (.retAddr 4), some (.ref 0), some (.ref 136), some (.int x3)] [.int y1, .int y0] (hs σ) (pI P)
  refine XA.icmp_eq (956) 1175 (by decide +kernel) (fun c1 => ?_) (fun c1 => ?_)
  · have H := H.1 c1
    refine XA.blk (e9 := 18) (ok := true) (ls' := [some (.retAddr 4), some (.ref 0), some (.ref 136), some (.int (x3 + 6))]) (st' := []) (h' := hs σ) [(.iinc 3 6, 3, 3, 0, 0, 0, 6, 0), (.goto (-1160), 3, 18, 0, 0, 0, 0, 0)] (by decide +kernel) rfl rfl ?_
    exact H
  · have H := H.2 c1
    refine XA.blk (e9 := 223) (ok := true) (ls' := [some (.retAddr 4), some (.ref 0), some (.ref 136), some (.int x3)]) (st' := [.int 0]) (h' := hs σ) [(.iconst 0, 1, 0, 0, 0, 0, 0, 0)] (by decide +kernel) rfl rfl ?_
    exact XA.ret (some (.int 0)) rfl (show ckRt mL 223 .ireturn = true by decide +kernel) (Or.inl rfl) (Nat.le_of_ble_eq_true rfl) (Nat.le_of_ble_eq_true rfl) ⟨_, _, rfl, rfl, H⟩
set_option maxRecDepth 20000 in
theorem W_L_law_228 {scr : ScA}   {x3 : Int32} {y0 : Int32}  {σ : Nat → Nat → Int32} {P : Int32 → (Nat → Nat → Int32) → Prop} (H : CiA scr 0 mX11_undo [.ref 136] σ (fun r9 σ' => K_L_law_232 scr x3 y0 r9 σ' P)) : K_L_law_228 scr x3 y0 σ P := by
  show XA scr 11 mL 172 4705 228 [some (.retAddr 4), some (.ref 0), some (.ref 136), some (.int x3)] [.int y0] (hs σ) (pI P)
  refine XA.blk (e9 := 229) (ok := true) (ls' := [some (.retAddr 4), some (.ref 0), some (.ref 136), some (.int x3)]) (st' := [.ref 136, .int y0]) (h' := hs σ) [(.aload_n 2, 1, 2, 0, 0, 0, 0, 0)] (by decide +kernel) rfl rfl ?_
  refine XA.callV (as := []) (rest := [.int y0]) (mc' := 0) (ms' := 0) (idx := 26) (t := 1068) cv_X11_undo (by decide +kernel) rfl rfl rfl (Nat.le_of_ble_eq_true rfl) (Nat.le_of_ble_eq_true rfl) (Nat.le_of_ble_eq_true rfl) (Nat.le_of_ble_eq_true rfl) (H) (fun rv h' hp => ?_)
  obtain ⟨r9, s9, rfl, rfl, hK⟩ := hp
  exact ⟨rfl, rfl, hK⟩
set_option maxRecDepth 20000 in
theorem W_L_law_232 {scr : ScA}   {x3 : Int32} {y0 : Int32} {y1 : Int32}  {σ : Nat → Nat → Int32} {P : Int32 → (Nat → Nat → Int32) → Prop} (H : (y0 = y1 → K_L_law_18 scr (x3 + 6) σ P) ∧ (¬ y0 = y1 → P 0 σ)) : K_L_law_232 scr x3 y0 y1 σ P := by
  show XA scr 11 mL 172 4705 232 [some (.retAddr 4), some (.ref 0), some (.ref 136), some (.int x3)] [.int y1, .int y0] (hs σ) (pI P)
  refine XA.icmp_eq (943) 1175 (by decide +kernel) (fun c1 => ?_) (fun c1 => ?_)
  · have H := H.1 c1
    refine XA.blk (e9 := 18) (ok := true) (ls' := [some (.retAddr 4), some (.ref 0), some (.ref 136), some (.int (x3 + 6))]) (st' := []) (h' := hs σ) [(.iinc 3 6, 3, 3, 0, 0, 0, 6, 0), (.goto (-1160), 3, 18, 0, 0, 0, 0, 0)] (by decide +kernel) rfl rfl ?_
    exact H
  · have H := H.2 c1
    refine XA.blk (e9 := 236) (ok := true) (ls' := [some (.retAddr 4), some (.ref 0), some (.ref 136), some (.int x3)]) (st' := [.int 0]) (h' := hs σ) [(.iconst 0, 1, 0, 0, 0, 0, 0, 0)] (by decide +kernel) rfl rfl ?_
    exact XA.ret (some (.int 0)) rfl (show ckRt mL 236 .ireturn = true by decide +kernel) (Or.inl rfl) (Nat.le_of_ble_eq_true rfl) (Nat.le_of_ble_eq_true rfl) ⟨_, _, rfl, rfl, H⟩
set_option maxRecDepth 20000 in
theorem W_L_law_241 {scr : ScA}   {x3 : Int32} {y0 : Int32}  {σ : Nat → Nat → Int32} {P : Int32 → (Nat → Nat → Int32) → Prop} (H : CiA scr 4 mX11_fault [.ref 136] σ (fun r9 σ' => K_L_law_245 scr x3 y0 r9 σ' P)) : K_L_law_241 scr x3 y0 σ P := by
  show XA scr 11 mL 172 4705 241 [some (.retAddr 4), some (.ref 0), some (.ref 136), some (.int x3)] [.int y0] (hs σ) (pI P)
  refine XA.blk (e9 := 242) (ok := true) (ls' := [some (.retAddr 4), some (.ref 0), some (.ref 136), some (.int x3)]) (st' := [.ref 136, .int y0]) (h' := hs σ) [(.aload_n 2, 1, 2, 0, 0, 0, 0, 0)] (by decide +kernel) rfl rfl ?_
  refine XA.callV (as := []) (rest := [.int y0]) (mc' := 0) (ms' := 0) (idx := 30) (t := 1072) cv_X11_fault (by decide +kernel) rfl rfl rfl (Nat.le_of_ble_eq_true rfl) (Nat.le_of_ble_eq_true rfl) (Nat.le_of_ble_eq_true rfl) (Nat.le_of_ble_eq_true rfl) (H) (fun rv h' hp => ?_)
  obtain ⟨r9, s9, rfl, rfl, hK⟩ := hp
  exact ⟨rfl, rfl, hK⟩
set_option maxRecDepth 20000 in
theorem W_L_law_245 {scr : ScA}   {x3 : Int32} {y0 : Int32} {y1 : Int32}  {σ : Nat → Nat → Int32} {P : Int32 → (Nat → Nat → Int32) → Prop} (H : (y0 = y1 → K_L_law_18 scr (x3 + 6) σ P) ∧ (¬ y0 = y1 → P 0 σ)) : K_L_law_245 scr x3 y0 y1 σ P := by
  show XA scr 11 mL 172 4705 245 [some (.retAddr 4), some (.ref 0), some (.ref 136), some (.int x3)] [.int y1, .int y0] (hs σ) (pI P)
  refine XA.icmp_eq (930) 1175 (by decide +kernel) (fun c1 => ?_) (fun c1 => ?_)
  · have H := H.1 c1
    refine XA.blk (e9 := 18) (ok := true) (ls' := [some (.retAddr 4), some (.ref 0), some (.ref 136), some (.int (x3 + 6))]) (st' := []) (h' := hs σ) [(.iinc 3 6, 3, 3, 0, 0, 0, 6, 0), (.goto (-1160), 3, 18, 0, 0, 0, 0, 0)] (by decide +kernel) rfl rfl ?_
    exact H
  · have H := H.2 c1
    refine XA.blk (e9 := 249) (ok := true) (ls' := [some (.retAddr 4), some (.ref 0), some (.ref 136), some (.int x3)]) (st' := [.int 0]) (h' := hs σ) [(.iconst 0, 1, 0, 0, 0, 0, 0, 0)] (by decide +kernel) rfl rfl ?_
    exact XA.ret (some (.int 0)) rfl (show ckRt mL 249 .ireturn = true by decide +kernel) (Or.inl rfl) (Nat.le_of_ble_eq_true rfl) (Nat.le_of_ble_eq_true rfl) ⟨_, _, rfl, rfl, H⟩
set_option maxRecDepth 20000 in
theorem W_L_law_264 {scr : ScA}   {x3 : Int32} {y0 : Int32}  {σ : Nat → Nat → Int32} {P : Int32 → (Nat → Nat → Int32) → Prop} (H : (inB (x3 + 1) scr.1 = true) ∧ (inB (x3 + 2) scr.1 = true) ∧ (CiA scr 6 mX11_acrobat [.ref 136, .int (tbV scr 4 (Int32.toNatClampNeg (x3 + 1))), .int (tbV scr 4 (Int32.toNatClampNeg (x3 + 2)))] σ (fun r9 σ' => K_L_law_278 scr x3 y0 r9 σ' P))) : K_L_law_264 scr x3 y0 σ P := by
  show XA scr 11 mL 172 4705 264 [some (.retAddr 4), some (.ref 0), some (.ref 136), some (.int x3)] [.int y0] (hs σ) (pI P)
  obtain ⟨o1, o2, H⟩ := H
  refine XA.blk (e9 := 275) (ok := inB (x3 + 1) scr.1 && (inB (x3 + 2) scr.1 && (true))) (ls' := [some (.retAddr 4), some (.ref 0), some (.ref 136), some (.int x3)]) (st' := [.int (tbV scr 4 (Int32.toNatClampNeg (x3 + 2))), .int (tbV scr 4 (Int32.toNatClampNeg (x3 + 1))), .ref 136, .int y0]) (h' := hs σ) [(.aload_n 2, 1, 2, 0, 0, 0, 0, 0), (.aload_n 0, 1, 0, 0, 0, 0, 0, 0), (.iload_n 3, 1, 3, 0, 0, 0, 0, 0), (.iconst 1, 1, 0, 0, 0, 0, 1, 0), (.iadd, 1, 0, 0, 0, 0, 0, 0), (.iaload, 1, 0, 0, 0, 0, 0, 0), (.aload_n 0, 1, 0, 0, 0, 0, 0, 0), (.iload_n 3, 1, 3, 0, 0, 0, 0, 0), (.iconst 2, 1, 0, 0, 0, 0, 2, 0), (.iadd, 1, 0, 0, 0, 0, 0, 0), (.iaload, 1, 0, 0, 0, 0, 0, 0)] (by decide +kernel) rfl (by simp only [o1, o2, Bool.and_true, Bool.true_and]) ?_
  refine XA.callV (as := [.int (tbV scr 4 (Int32.toNatClampNeg (x3 + 1))), .int (tbV scr 4 (Int32.toNatClampNeg (x3 + 2)))]) (rest := [.int y0]) (mc' := 0) (ms' := 0) (idx := 35) (t := 1098) cv_X11_acrobat (by decide +kernel) rfl rfl rfl (Nat.le_of_ble_eq_true rfl) (Nat.le_of_ble_eq_true rfl) (Nat.le_of_ble_eq_true rfl) (Nat.le_of_ble_eq_true rfl) (H) (fun rv h' hp => ?_)
  obtain ⟨r9, s9, rfl, rfl, hK⟩ := hp
  exact ⟨rfl, rfl, hK⟩
set_option maxRecDepth 20000 in
theorem W_L_law_278 {scr : ScA}   {x3 : Int32} {y0 : Int32} {y1 : Int32}  {σ : Nat → Nat → Int32} {P : Int32 → (Nat → Nat → Int32) → Prop} (H : (y0 = y1 → K_L_law_18 scr (x3 + 6) σ P) ∧ (¬ y0 = y1 → P 0 σ)) : K_L_law_278 scr x3 y0 y1 σ P := by
  show XA scr 11 mL 172 4705 278 [some (.retAddr 4), some (.ref 0), some (.ref 136), some (.int x3)] [.int y1, .int y0] (hs σ) (pI P)
  refine XA.icmp_eq (897) 1175 (by decide +kernel) (fun c1 => ?_) (fun c1 => ?_)
  · have H := H.1 c1
    refine XA.blk (e9 := 18) (ok := true) (ls' := [some (.retAddr 4), some (.ref 0), some (.ref 136), some (.int (x3 + 6))]) (st' := []) (h' := hs σ) [(.iinc 3 6, 3, 3, 0, 0, 0, 6, 0), (.goto (-1160), 3, 18, 0, 0, 0, 0, 0)] (by decide +kernel) rfl rfl ?_
    exact H
  · have H := H.2 c1
    refine XA.blk (e9 := 282) (ok := true) (ls' := [some (.retAddr 4), some (.ref 0), some (.ref 136), some (.int x3)]) (st' := [.int 0]) (h' := hs σ) [(.iconst 0, 1, 0, 0, 0, 0, 0, 0)] (by decide +kernel) rfl rfl ?_
    exact XA.ret (some (.int 0)) rfl (show ckRt mL 282 .ireturn = true by decide +kernel) (Or.inl rfl) (Nat.le_of_ble_eq_true rfl) (Nat.le_of_ble_eq_true rfl) ⟨_, _, rfl, rfl, H⟩
set_option maxRecDepth 20000 in
theorem W_L_law_302 {scr : ScA}   {x3 : Int32} {y0 : Int32}  {σ : Nat → Nat → Int32} {P : Int32 → (Nat → Nat → Int32) → Prop} (H : (inB (x3 + 1) scr.1 = true) ∧ (inB (x3 + 2) scr.1 = true) ∧ (inB (x3 + 3) scr.1 = true) ∧ (CiA scr 2 mX11_event [.ref 136, .int (tbV scr 4 (Int32.toNatClampNeg (x3 + 1))), .int (tbV scr 4 (Int32.toNatClampNeg (x3 + 2))), .int (tbV scr 4 (Int32.toNatClampNeg (x3 + 3)))] σ (fun r9 σ' => K_L_law_321 scr x3 y0 r9 σ' P))) : K_L_law_302 scr x3 y0 σ P := by
  show XA scr 11 mL 172 4705 302 [some (.retAddr 4), some (.ref 0), some (.ref 136), some (.int x3)] [.int y0] (hs σ) (pI P)
  obtain ⟨o1, o2, o3, H⟩ := H
  refine XA.blk (e9 := 318) (ok := inB (x3 + 1) scr.1 && (inB (x3 + 2) scr.1 && (inB (x3 + 3) scr.1 && (true)))) (ls' := [some (.retAddr 4), some (.ref 0), some (.ref 136), some (.int x3)]) (st' := [.int (tbV scr 4 (Int32.toNatClampNeg (x3 + 3))), .int (tbV scr 4 (Int32.toNatClampNeg (x3 + 2))), .int (tbV scr 4 (Int32.toNatClampNeg (x3 + 1))), .ref 136, .int y0]) (h' := hs σ) [(.aload_n 2, 1, 2, 0, 0, 0, 0, 0), (.aload_n 0, 1, 0, 0, 0, 0, 0, 0), (.iload_n 3, 1, 3, 0, 0, 0, 0, 0), (.iconst 1, 1, 0, 0, 0, 0, 1, 0), (.iadd, 1, 0, 0, 0, 0, 0, 0), (.iaload, 1, 0, 0, 0, 0, 0, 0), (.aload_n 0, 1, 0, 0, 0, 0, 0, 0), (.iload_n 3, 1, 3, 0, 0, 0, 0, 0), (.iconst 2, 1, 0, 0, 0, 0, 2, 0), (.iadd, 1, 0, 0, 0, 0, 0, 0), (.iaload, 1, 0, 0, 0, 0, 0, 0), (.aload_n 0, 1, 0, 0, 0, 0, 0, 0), (.iload_n 3, 1, 3, 0, 0, 0, 0, 0), (.iconst 3, 1, 0, 0, 0, 0, 3, 0), (.iadd, 1, 0, 0, 0, 0, 0, 0), (.iaload, 1, 0, 0, 0, 0, 0, 0)] (by decide +kernel) rfl (by simp only [o1, o2, o3, Bool.and_true, Bool.true_and]) ?_
  refine XA.callV (as := [.int (tbV scr 4 (Int32.toNatClampNeg (x3 + 1))), .int (tbV scr 4 (Int32.toNatClampNeg (x3 + 2))), .int (tbV scr 4 (Int32.toNatClampNeg (x3 + 3)))]) (rest := [.int y0]) (mc' := 0) (ms' := 0) (idx := 40) (t := 1114) cv_X11_event (by decide +kernel) rfl rfl rfl (Nat.le_of_ble_eq_true rfl) (Nat.le_of_ble_eq_true rfl) (Nat.le_of_ble_eq_true rfl) (Nat.le_of_ble_eq_true rfl) (H) (fun rv h' hp => ?_)
  obtain ⟨r9, s9, rfl, rfl, hK⟩ := hp
  exact ⟨rfl, rfl, hK⟩
set_option maxRecDepth 20000 in
theorem W_L_law_321 {scr : ScA}   {x3 : Int32} {y0 : Int32} {y1 : Int32}  {σ : Nat → Nat → Int32} {P : Int32 → (Nat → Nat → Int32) → Prop} (H : (y0 = y1 → K_L_law_18 scr (x3 + 6) σ P) ∧ (¬ y0 = y1 → P 0 σ)) : K_L_law_321 scr x3 y0 y1 σ P := by
  show XA scr 11 mL 172 4705 321 [some (.retAddr 4), some (.ref 0), some (.ref 136), some (.int x3)] [.int y1, .int y0] (hs σ) (pI P)
  refine XA.icmp_eq (854) 1175 (by decide +kernel) (fun c1 => ?_) (fun c1 => ?_)
  · have H := H.1 c1
    refine XA.blk (e9 := 18) (ok := true) (ls' := [some (.retAddr 4), some (.ref 0), some (.ref 136), some (.int (x3 + 6))]) (st' := []) (h' := hs σ) [(.iinc 3 6, 3, 3, 0, 0, 0, 6, 0), (.goto (-1160), 3, 18, 0, 0, 0, 0, 0)] (by decide +kernel) rfl rfl ?_
    exact H
  · have H := H.2 c1
    refine XA.blk (e9 := 325) (ok := true) (ls' := [some (.retAddr 4), some (.ref 0), some (.ref 136), some (.int x3)]) (st' := [.int 0]) (h' := hs σ) [(.iconst 0, 1, 0, 0, 0, 0, 0, 0)] (by decide +kernel) rfl rfl ?_
    exact XA.ret (some (.int 0)) rfl (show ckRt mL 325 .ireturn = true by decide +kernel) (Or.inl rfl) (Nat.le_of_ble_eq_true rfl) (Nat.le_of_ble_eq_true rfl) ⟨_, _, rfl, rfl, H⟩
set_option maxRecDepth 20000 in
theorem W_L_law_330 {scr : ScA}   {x3 : Int32} {y0 : Int32}  {σ : Nat → Nat → Int32} {P : Int32 → (Nat → Nat → Int32) → Prop} (H : CiA scr 0 mX11_back [.ref 136] σ (fun r9 σ' => K_L_law_334 scr x3 y0 r9 σ' P)) : K_L_law_330 scr x3 y0 σ P := by
  show XA scr 11 mL 172 4705 330 [some (.retAddr 4), some (.ref 0), some (.ref 136), some (.int x3)] [.int y0] (hs σ) (pI P)
  refine XA.blk (e9 := 331) (ok := true) (ls' := [some (.retAddr 4), some (.ref 0), some (.ref 136), some (.int x3)]) (st' := [.ref 136, .int y0]) (h' := hs σ) [(.aload_n 2, 1, 2, 0, 0, 0, 0, 0)] (by decide +kernel) rfl rfl ?_
  refine XA.callV (as := []) (rest := [.int y0]) (mc' := 0) (ms' := 0) (idx := 44) (t := 1121) cv_X11_back (by decide +kernel) rfl rfl rfl (Nat.le_of_ble_eq_true rfl) (Nat.le_of_ble_eq_true rfl) (Nat.le_of_ble_eq_true rfl) (Nat.le_of_ble_eq_true rfl) (H) (fun rv h' hp => ?_)
  obtain ⟨r9, s9, rfl, rfl, hK⟩ := hp
  exact ⟨rfl, rfl, hK⟩
set_option maxRecDepth 20000 in
theorem W_L_law_334 {scr : ScA}   {x3 : Int32} {y0 : Int32} {y1 : Int32}  {σ : Nat → Nat → Int32} {P : Int32 → (Nat → Nat → Int32) → Prop} (H : (y0 = y1 → K_L_law_18 scr (x3 + 6) σ P) ∧ (¬ y0 = y1 → P 0 σ)) : K_L_law_334 scr x3 y0 y1 σ P := by
  show XA scr 11 mL 172 4705 334 [some (.retAddr 4), some (.ref 0), some (.ref 136), some (.int x3)] [.int y1, .int y0] (hs σ) (pI P)
  refine XA.icmp_eq (841) 1175 (by decide +kernel) (fun c1 => ?_) (fun c1 => ?_)
  · have H := H.1 c1
    refine XA.blk (e9 := 18) (ok := true) (ls' := [some (.retAddr 4), some (.ref 0), some (.ref 136), some (.int (x3 + 6))]) (st' := []) (h' := hs σ) [(.iinc 3 6, 3, 3, 0, 0, 0, 6, 0), (.goto (-1160), 3, 18, 0, 0, 0, 0, 0)] (by decide +kernel) rfl rfl ?_
    exact H
  · have H := H.2 c1
    refine XA.blk (e9 := 338) (ok := true) (ls' := [some (.retAddr 4), some (.ref 0), some (.ref 136), some (.int x3)]) (st' := [.int 0]) (h' := hs σ) [(.iconst 0, 1, 0, 0, 0, 0, 0, 0)] (by decide +kernel) rfl rfl ?_
    exact XA.ret (some (.int 0)) rfl (show ckRt mL 338 .ireturn = true by decide +kernel) (Or.inl rfl) (Nat.le_of_ble_eq_true rfl) (Nat.le_of_ble_eq_true rfl) ⟨_, _, rfl, rfl, H⟩
set_option maxRecDepth 20000 in
theorem W_L_law_348 {scr : ScA}   {x3 : Int32} {y0 : Int32}  {σ : Nat → Nat → Int32} {P : Int32 → (Nat → Nat → Int32) → Prop} (H : (inB (x3 + 1) scr.1 = true) ∧ (CiA scr 3 mX11_read [.ref 136, .int (tbV scr 4 (Int32.toNatClampNeg (x3 + 1)))] σ (fun r9 σ' => K_L_law_357 scr x3 y0 r9 σ' P))) : K_L_law_348 scr x3 y0 σ P := by
  show XA scr 11 mL 172 4705 348 [some (.retAddr 4), some (.ref 0), some (.ref 136), some (.int x3)] [.int y0] (hs σ) (pI P)
  obtain ⟨o1, H⟩ := H
  refine XA.blk (e9 := 354) (ok := inB (x3 + 1) scr.1 && (true)) (ls' := [some (.retAddr 4), some (.ref 0), some (.ref 136), some (.int x3)]) (st' := [.int (tbV scr 4 (Int32.toNatClampNeg (x3 + 1))), .ref 136, .int y0]) (h' := hs σ) [(.aload_n 2, 1, 2, 0, 0, 0, 0, 0), (.aload_n 0, 1, 0, 0, 0, 0, 0, 0), (.iload_n 3, 1, 3, 0, 0, 0, 0, 0), (.iconst 1, 1, 0, 0, 0, 0, 1, 0), (.iadd, 1, 0, 0, 0, 0, 0, 0), (.iaload, 1, 0, 0, 0, 0, 0, 0)] (by decide +kernel) rfl (by simp only [o1, Bool.and_true, Bool.true_and]) ?_
  refine XA.callV (as := [.int (tbV scr 4 (Int32.toNatClampNeg (x3 + 1)))]) (rest := [.int y0]) (mc' := 0) (ms' := 0) (idx := 48) (t := 1125) cv_X11_read (by decide +kernel) rfl rfl rfl (Nat.le_of_ble_eq_true rfl) (Nat.le_of_ble_eq_true rfl) (Nat.le_of_ble_eq_true rfl) (Nat.le_of_ble_eq_true rfl) (H) (fun rv h' hp => ?_)
  obtain ⟨r9, s9, rfl, rfl, hK⟩ := hp
  exact ⟨rfl, rfl, hK⟩
set_option maxRecDepth 20000 in
theorem W_L_law_357 {scr : ScA}   {x3 : Int32} {y0 : Int32} {y1 : Int32}  {σ : Nat → Nat → Int32} {P : Int32 → (Nat → Nat → Int32) → Prop} (H : (y0 = y1 → K_L_law_18 scr (x3 + 6) σ P) ∧ (¬ y0 = y1 → P 0 σ)) : K_L_law_357 scr x3 y0 y1 σ P := by
  show XA scr 11 mL 172 4705 357 [some (.retAddr 4), some (.ref 0), some (.ref 136), some (.int x3)] [.int y1, .int y0] (hs σ) (pI P)
  refine XA.icmp_eq (818) 1175 (by decide +kernel) (fun c1 => ?_) (fun c1 => ?_)
  · have H := H.1 c1
    refine XA.blk (e9 := 18) (ok := true) (ls' := [some (.retAddr 4), some (.ref 0), some (.ref 136), some (.int (x3 + 6))]) (st' := []) (h' := hs σ) [(.iinc 3 6, 3, 3, 0, 0, 0, 6, 0), (.goto (-1160), 3, 18, 0, 0, 0, 0, 0)] (by decide +kernel) rfl rfl ?_
    exact H
  · have H := H.2 c1
    refine XA.blk (e9 := 361) (ok := true) (ls' := [some (.retAddr 4), some (.ref 0), some (.ref 136), some (.int x3)]) (st' := [.int 0]) (h' := hs σ) [(.iconst 0, 1, 0, 0, 0, 0, 0, 0)] (by decide +kernel) rfl rfl ?_
    exact XA.ret (some (.int 0)) rfl (show ckRt mL 361 .ireturn = true by decide +kernel) (Or.inl rfl) (Nat.le_of_ble_eq_true rfl) (Nat.le_of_ble_eq_true rfl) ⟨_, _, rfl, rfl, H⟩
set_option maxRecDepth 20000 in
theorem W_L_law_381 {scr : ScA}   {x3 : Int32} {y0 : Int32}  {σ : Nat → Nat → Int32} {P : Int32 → (Nat → Nat → Int32) → Prop} (H : (inB (x3 + 1) scr.1 = true) ∧ (inB (x3 + 2) scr.1 = true) ∧ (inB (x3 + 3) scr.1 = true) ∧ (CiA scr 8 mX11_at [.ref 136, .int (tbV scr 4 (Int32.toNatClampNeg (x3 + 1))), .int (tbV scr 4 (Int32.toNatClampNeg (x3 + 2))), .int (tbV scr 4 (Int32.toNatClampNeg (x3 + 3)))] σ (fun r9 σ' => K_L_law_400 scr x3 y0 r9 σ' P))) : K_L_law_381 scr x3 y0 σ P := by
  show XA scr 11 mL 172 4705 381 [some (.retAddr 4), some (.ref 0), some (.ref 136), some (.int x3)] [.int y0] (hs σ) (pI P)
  obtain ⟨o1, o2, o3, H⟩ := H
  refine XA.blk (e9 := 397) (ok := inB (x3 + 1) scr.1 && (inB (x3 + 2) scr.1 && (inB (x3 + 3) scr.1 && (true)))) (ls' := [some (.retAddr 4), some (.ref 0), some (.ref 136), some (.int x3)]) (st' := [.int (tbV scr 4 (Int32.toNatClampNeg (x3 + 3))), .int (tbV scr 4 (Int32.toNatClampNeg (x3 + 2))), .int (tbV scr 4 (Int32.toNatClampNeg (x3 + 1))), .ref 136, .int y0]) (h' := hs σ) [(.aload_n 2, 1, 2, 0, 0, 0, 0, 0), (.aload_n 0, 1, 0, 0, 0, 0, 0, 0), (.iload_n 3, 1, 3, 0, 0, 0, 0, 0), (.iconst 1, 1, 0, 0, 0, 0, 1, 0), (.iadd, 1, 0, 0, 0, 0, 0, 0), (.iaload, 1, 0, 0, 0, 0, 0, 0), (.aload_n 0, 1, 0, 0, 0, 0, 0, 0), (.iload_n 3, 1, 3, 0, 0, 0, 0, 0), (.iconst 2, 1, 0, 0, 0, 0, 2, 0), (.iadd, 1, 0, 0, 0, 0, 0, 0), (.iaload, 1, 0, 0, 0, 0, 0, 0), (.aload_n 0, 1, 0, 0, 0, 0, 0, 0), (.iload_n 3, 1, 3, 0, 0, 0, 0, 0), (.iconst 3, 1, 0, 0, 0, 0, 3, 0), (.iadd, 1, 0, 0, 0, 0, 0, 0), (.iaload, 1, 0, 0, 0, 0, 0, 0)] (by decide +kernel) rfl (by simp only [o1, o2, o3, Bool.and_true, Bool.true_and]) ?_
  refine XA.callV (as := [.int (tbV scr 4 (Int32.toNatClampNeg (x3 + 1))), .int (tbV scr 4 (Int32.toNatClampNeg (x3 + 2))), .int (tbV scr 4 (Int32.toNatClampNeg (x3 + 3)))]) (rest := [.int y0]) (mc' := 0) (ms' := 0) (idx := 52) (t := 1137) cv_X11_at (by decide +kernel) rfl rfl rfl (Nat.le_of_ble_eq_true rfl) (Nat.le_of_ble_eq_true rfl) (Nat.le_of_ble_eq_true rfl) (Nat.le_of_ble_eq_true rfl) (H) (fun rv h' hp => ?_)
  obtain ⟨r9, s9, rfl, rfl, hK⟩ := hp
  exact ⟨rfl, rfl, hK⟩
set_option maxRecDepth 20000 in
theorem W_L_law_400 {scr : ScA}   {x3 : Int32} {y0 : Int32} {y1 : Int32}  {σ : Nat → Nat → Int32} {P : Int32 → (Nat → Nat → Int32) → Prop} (H : (y0 = y1 → K_L_law_18 scr (x3 + 6) σ P) ∧ (¬ y0 = y1 → P 0 σ)) : K_L_law_400 scr x3 y0 y1 σ P := by
  show XA scr 11 mL 172 4705 400 [some (.retAddr 4), some (.ref 0), some (.ref 136), some (.int x3)] [.int y1, .int y0] (hs σ) (pI P)
  refine XA.icmp_eq (775) 1175 (by decide +kernel) (fun c1 => ?_) (fun c1 => ?_)
  · have H := H.1 c1
    refine XA.blk (e9 := 18) (ok := true) (ls' := [some (.retAddr 4), some (.ref 0), some (.ref 136), some (.int (x3 + 6))]) (st' := []) (h' := hs σ) [(.iinc 3 6, 3, 3, 0, 0, 0, 6, 0), (.goto (-1160), 3, 18, 0, 0, 0, 0, 0)] (by decide +kernel) rfl rfl ?_
    exact H
  · have H := H.2 c1
    refine XA.blk (e9 := 404) (ok := true) (ls' := [some (.retAddr 4), some (.ref 0), some (.ref 136), some (.int x3)]) (st' := [.int 0]) (h' := hs σ) [(.iconst 0, 1, 0, 0, 0, 0, 0, 0)] (by decide +kernel) rfl rfl ?_
    exact XA.ret (some (.int 0)) rfl (show ckRt mL 404 .ireturn = true by decide +kernel) (Or.inl rfl) (Nat.le_of_ble_eq_true rfl) (Nat.le_of_ble_eq_true rfl) ⟨_, _, rfl, rfl, H⟩
set_option maxRecDepth 20000 in
theorem W_L_law_419 {scr : ScA}   {x3 : Int32} {y0 : Int32}  {σ : Nat → Nat → Int32} {P : Int32 → (Nat → Nat → Int32) → Prop} (H : (inB (x3 + 1) scr.1 = true) ∧ (inB (x3 + 2) scr.1 = true) ∧ (CiA scr 8 mX11_stands [.ref 136, .int (tbV scr 4 (Int32.toNatClampNeg (x3 + 1))), .int (tbV scr 4 (Int32.toNatClampNeg (x3 + 2)))] σ (fun r9 σ' => K_L_law_433 scr x3 y0 r9 σ' P))) : K_L_law_419 scr x3 y0 σ P := by
  show XA scr 11 mL 172 4705 419 [some (.retAddr 4), some (.ref 0), some (.ref 136), some (.int x3)] [.int y0] (hs σ) (pI P)
  obtain ⟨o1, o2, H⟩ := H
  refine XA.blk (e9 := 430) (ok := inB (x3 + 1) scr.1 && (inB (x3 + 2) scr.1 && (true))) (ls' := [some (.retAddr 4), some (.ref 0), some (.ref 136), some (.int x3)]) (st' := [.int (tbV scr 4 (Int32.toNatClampNeg (x3 + 2))), .int (tbV scr 4 (Int32.toNatClampNeg (x3 + 1))), .ref 136, .int y0]) (h' := hs σ) [(.aload_n 2, 1, 2, 0, 0, 0, 0, 0), (.aload_n 0, 1, 0, 0, 0, 0, 0, 0), (.iload_n 3, 1, 3, 0, 0, 0, 0, 0), (.iconst 1, 1, 0, 0, 0, 0, 1, 0), (.iadd, 1, 0, 0, 0, 0, 0, 0), (.iaload, 1, 0, 0, 0, 0, 0, 0), (.aload_n 0, 1, 0, 0, 0, 0, 0, 0), (.iload_n 3, 1, 3, 0, 0, 0, 0, 0), (.iconst 2, 1, 0, 0, 0, 0, 2, 0), (.iadd, 1, 0, 0, 0, 0, 0, 0), (.iaload, 1, 0, 0, 0, 0, 0, 0)] (by decide +kernel) rfl (by simp only [o1, o2, Bool.and_true, Bool.true_and]) ?_
  refine XA.callV (as := [.int (tbV scr 4 (Int32.toNatClampNeg (x3 + 1))), .int (tbV scr 4 (Int32.toNatClampNeg (x3 + 2)))]) (rest := [.int y0]) (mc' := 0) (ms' := 0) (idx := 56) (t := 1191) cv_X11_stands (by decide +kernel) rfl rfl rfl (Nat.le_of_ble_eq_true rfl) (Nat.le_of_ble_eq_true rfl) (Nat.le_of_ble_eq_true rfl) (Nat.le_of_ble_eq_true rfl) (H) (fun rv h' hp => ?_)
  obtain ⟨r9, s9, rfl, rfl, hK⟩ := hp
  exact ⟨rfl, rfl, hK⟩
set_option maxRecDepth 20000 in
theorem W_L_law_433 {scr : ScA}   {x3 : Int32} {y0 : Int32} {y1 : Int32}  {σ : Nat → Nat → Int32} {P : Int32 → (Nat → Nat → Int32) → Prop} (H : (y0 = y1 → K_L_law_18 scr (x3 + 6) σ P) ∧ (¬ y0 = y1 → P 0 σ)) : K_L_law_433 scr x3 y0 y1 σ P := by
  show XA scr 11 mL 172 4705 433 [some (.retAddr 4), some (.ref 0), some (.ref 136), some (.int x3)] [.int y1, .int y0] (hs σ) (pI P)
  refine XA.icmp_eq (742) 1175 (by decide +kernel) (fun c1 => ?_) (fun c1 => ?_)
  · have H := H.1 c1
    refine XA.blk (e9 := 18) (ok := true) (ls' := [some (.retAddr 4), some (.ref 0), some (.ref 136), some (.int (x3 + 6))]) (st' := []) (h' := hs σ) [(.iinc 3 6, 3, 3, 0, 0, 0, 6, 0), (.goto (-1160), 3, 18, 0, 0, 0, 0, 0)] (by decide +kernel) rfl rfl ?_
    exact H
  · have H := H.2 c1
    refine XA.blk (e9 := 437) (ok := true) (ls' := [some (.retAddr 4), some (.ref 0), some (.ref 136), some (.int x3)]) (st' := [.int 0]) (h' := hs σ) [(.iconst 0, 1, 0, 0, 0, 0, 0, 0)] (by decide +kernel) rfl rfl ?_
    exact XA.ret (some (.int 0)) rfl (show ckRt mL 437 .ireturn = true by decide +kernel) (Or.inl rfl) (Nat.le_of_ble_eq_true rfl) (Nat.le_of_ble_eq_true rfl) ⟨_, _, rfl, rfl, H⟩
set_option maxRecDepth 20000 in
theorem W_L_law_452 {scr : ScA}   {x3 : Int32} {y0 : Int32}  {σ : Nat → Nat → Int32} {P : Int32 → (Nat → Nat → Int32) → Prop} (H : (inB (x3 + 1) scr.1 = true) ∧ (inB (x3 + 2) scr.1 = true) ∧ (CiA scr 8 mX11_tower [.ref 136, .int (tbV scr 4 (Int32.toNatClampNeg (x3 + 1))), .int (tbV scr 4 (Int32.toNatClampNeg (x3 + 2)))] σ (fun r9 σ' => K_L_law_466 scr x3 y0 r9 σ' P))) : K_L_law_452 scr x3 y0 σ P := by
  show XA scr 11 mL 172 4705 452 [some (.retAddr 4), some (.ref 0), some (.ref 136), some (.int x3)] [.int y0] (hs σ) (pI P)
  obtain ⟨o1, o2, H⟩ := H
  refine XA.blk (e9 := 463) (ok := inB (x3 + 1) scr.1 && (inB (x3 + 2) scr.1 && (true))) (ls' := [some (.retAddr 4), some (.ref 0), some (.ref 136), some (.int x3)]) (st' := [.int (tbV scr 4 (Int32.toNatClampNeg (x3 + 2))), .int (tbV scr 4 (Int32.toNatClampNeg (x3 + 1))), .ref 136, .int y0]) (h' := hs σ) [(.aload_n 2, 1, 2, 0, 0, 0, 0, 0), (.aload_n 0, 1, 0, 0, 0, 0, 0, 0), (.iload_n 3, 1, 3, 0, 0, 0, 0, 0), (.iconst 1, 1, 0, 0, 0, 0, 1, 0), (.iadd, 1, 0, 0, 0, 0, 0, 0), (.iaload, 1, 0, 0, 0, 0, 0, 0), (.aload_n 0, 1, 0, 0, 0, 0, 0, 0), (.iload_n 3, 1, 3, 0, 0, 0, 0, 0), (.iconst 2, 1, 0, 0, 0, 0, 2, 0), (.iadd, 1, 0, 0, 0, 0, 0, 0), (.iaload, 1, 0, 0, 0, 0, 0, 0)] (by decide +kernel) rfl (by simp only [o1, o2, Bool.and_true, Bool.true_and]) ?_
  refine XA.callV (as := [.int (tbV scr 4 (Int32.toNatClampNeg (x3 + 1))), .int (tbV scr 4 (Int32.toNatClampNeg (x3 + 2)))]) (rest := [.int y0]) (mc' := 0) (ms' := 0) (idx := 60) (t := 1199) cv_X11_tower (by decide +kernel) rfl rfl rfl (Nat.le_of_ble_eq_true rfl) (Nat.le_of_ble_eq_true rfl) (Nat.le_of_ble_eq_true rfl) (Nat.le_of_ble_eq_true rfl) (H) (fun rv h' hp => ?_)
  obtain ⟨r9, s9, rfl, rfl, hK⟩ := hp
  exact ⟨rfl, rfl, hK⟩
set_option maxRecDepth 20000 in
theorem W_L_law_466 {scr : ScA}   {x3 : Int32} {y0 : Int32} {y1 : Int32}  {σ : Nat → Nat → Int32} {P : Int32 → (Nat → Nat → Int32) → Prop} (H : (y0 = y1 → K_L_law_18 scr (x3 + 6) σ P) ∧ (¬ y0 = y1 → P 0 σ)) : K_L_law_466 scr x3 y0 y1 σ P := by
  show XA scr 11 mL 172 4705 466 [some (.retAddr 4), some (.ref 0), some (.ref 136), some (.int x3)] [.int y1, .int y0] (hs σ) (pI P)
  refine XA.icmp_eq (709) 1175 (by decide +kernel) (fun c1 => ?_) (fun c1 => ?_)
  · have H := H.1 c1
    refine XA.blk (e9 := 18) (ok := true) (ls' := [some (.retAddr 4), some (.ref 0), some (.ref 136), some (.int (x3 + 6))]) (st' := []) (h' := hs σ) [(.iinc 3 6, 3, 3, 0, 0, 0, 6, 0), (.goto (-1160), 3, 18, 0, 0, 0, 0, 0)] (by decide +kernel) rfl rfl ?_
    exact H
  · have H := H.2 c1
    refine XA.blk (e9 := 470) (ok := true) (ls' := [some (.retAddr 4), some (.ref 0), some (.ref 136), some (.int x3)]) (st' := [.int 0]) (h' := hs σ) [(.iconst 0, 1, 0, 0, 0, 0, 0, 0)] (by decide +kernel) rfl rfl ?_
    exact XA.ret (some (.int 0)) rfl (show ckRt mL 470 .ireturn = true by decide +kernel) (Or.inl rfl) (Nat.le_of_ble_eq_true rfl) (Nat.le_of_ble_eq_true rfl) ⟨_, _, rfl, rfl, H⟩
set_option maxRecDepth 20000 in
theorem W_L_law_480 {scr : ScA}   {x3 : Int32} {y0 : Int32}  {σ : Nat → Nat → Int32} {P : Int32 → (Nat → Nat → Int32) → Prop} (H : (inB (x3 + 1) scr.1 = true) ∧ (CiA scr 8 mX11_sum [.ref 136, .int (tbV scr 4 (Int32.toNatClampNeg (x3 + 1)))] σ (fun r9 σ' => K_L_law_489 scr x3 y0 r9 σ' P))) : K_L_law_480 scr x3 y0 σ P := by
  show XA scr 11 mL 172 4705 480 [some (.retAddr 4), some (.ref 0), some (.ref 136), some (.int x3)] [.int y0] (hs σ) (pI P)
  obtain ⟨o1, H⟩ := H
  refine XA.blk (e9 := 486) (ok := inB (x3 + 1) scr.1 && (true)) (ls' := [some (.retAddr 4), some (.ref 0), some (.ref 136), some (.int x3)]) (st' := [.int (tbV scr 4 (Int32.toNatClampNeg (x3 + 1))), .ref 136, .int y0]) (h' := hs σ) [(.aload_n 2, 1, 2, 0, 0, 0, 0, 0), (.aload_n 0, 1, 0, 0, 0, 0, 0, 0), (.iload_n 3, 1, 3, 0, 0, 0, 0, 0), (.iconst 1, 1, 0, 0, 0, 0, 1, 0), (.iadd, 1, 0, 0, 0, 0, 0, 0), (.iaload, 1, 0, 0, 0, 0, 0, 0)] (by decide +kernel) rfl (by simp only [o1, Bool.and_true, Bool.true_and]) ?_
  refine XA.callV (as := [.int (tbV scr 4 (Int32.toNatClampNeg (x3 + 1)))]) (rest := [.int y0]) (mc' := 0) (ms' := 0) (idx := 64) (t := 1210) cv_X11_sum (by decide +kernel) rfl rfl rfl (Nat.le_of_ble_eq_true rfl) (Nat.le_of_ble_eq_true rfl) (Nat.le_of_ble_eq_true rfl) (Nat.le_of_ble_eq_true rfl) (H) (fun rv h' hp => ?_)
  obtain ⟨r9, s9, rfl, rfl, hK⟩ := hp
  exact ⟨rfl, rfl, hK⟩
set_option maxRecDepth 20000 in
theorem W_L_law_489 {scr : ScA}   {x3 : Int32} {y0 : Int32} {y1 : Int32}  {σ : Nat → Nat → Int32} {P : Int32 → (Nat → Nat → Int32) → Prop} (H : (y0 = y1 → K_L_law_18 scr (x3 + 6) σ P) ∧ (¬ y0 = y1 → P 0 σ)) : K_L_law_489 scr x3 y0 y1 σ P := by
  show XA scr 11 mL 172 4705 489 [some (.retAddr 4), some (.ref 0), some (.ref 136), some (.int x3)] [.int y1, .int y0] (hs σ) (pI P)
  refine XA.icmp_eq (686) 1175 (by decide +kernel) (fun c1 => ?_) (fun c1 => ?_)
  · have H := H.1 c1
    refine XA.blk (e9 := 18) (ok := true) (ls' := [some (.retAddr 4), some (.ref 0), some (.ref 136), some (.int (x3 + 6))]) (st' := []) (h' := hs σ) [(.iinc 3 6, 3, 3, 0, 0, 0, 6, 0), (.goto (-1160), 3, 18, 0, 0, 0, 0, 0)] (by decide +kernel) rfl rfl ?_
    exact H
  · have H := H.2 c1
    refine XA.blk (e9 := 493) (ok := true) (ls' := [some (.retAddr 4), some (.ref 0), some (.ref 136), some (.int x3)]) (st' := [.int 0]) (h' := hs σ) [(.iconst 0, 1, 0, 0, 0, 0, 0, 0)] (by decide +kernel) rfl rfl ?_
    exact XA.ret (some (.int 0)) rfl (show ckRt mL 493 .ireturn = true by decide +kernel) (Or.inl rfl) (Nat.le_of_ble_eq_true rfl) (Nat.le_of_ble_eq_true rfl) ⟨_, _, rfl, rfl, H⟩
set_option maxRecDepth 20000 in
theorem W_L_law_503 {scr : ScA}   {x3 : Int32} {y0 : Int32}  {σ : Nat → Nat → Int32} {P : Int32 → (Nat → Nat → Int32) → Prop} (H : (inB (x3 + 1) scr.1 = true) ∧ (CiA scr 8 mX11_top [.ref 136, .int (tbV scr 4 (Int32.toNatClampNeg (x3 + 1)))] σ (fun r9 σ' => K_L_law_512 scr x3 y0 r9 σ' P))) : K_L_law_503 scr x3 y0 σ P := by
  show XA scr 11 mL 172 4705 503 [some (.retAddr 4), some (.ref 0), some (.ref 136), some (.int x3)] [.int y0] (hs σ) (pI P)
  obtain ⟨o1, H⟩ := H
  refine XA.blk (e9 := 509) (ok := inB (x3 + 1) scr.1 && (true)) (ls' := [some (.retAddr 4), some (.ref 0), some (.ref 136), some (.int x3)]) (st' := [.int (tbV scr 4 (Int32.toNatClampNeg (x3 + 1))), .ref 136, .int y0]) (h' := hs σ) [(.aload_n 2, 1, 2, 0, 0, 0, 0, 0), (.aload_n 0, 1, 0, 0, 0, 0, 0, 0), (.iload_n 3, 1, 3, 0, 0, 0, 0, 0), (.iconst 1, 1, 0, 0, 0, 0, 1, 0), (.iadd, 1, 0, 0, 0, 0, 0, 0), (.iaload, 1, 0, 0, 0, 0, 0, 0)] (by decide +kernel) rfl (by simp only [o1, Bool.and_true, Bool.true_and]) ?_
  refine XA.callV (as := [.int (tbV scr 4 (Int32.toNatClampNeg (x3 + 1)))]) (rest := [.int y0]) (mc' := 0) (ms' := 0) (idx := 68) (t := 1218) cv_X11_top (by decide +kernel) rfl rfl rfl (Nat.le_of_ble_eq_true rfl) (Nat.le_of_ble_eq_true rfl) (Nat.le_of_ble_eq_true rfl) (Nat.le_of_ble_eq_true rfl) (H) (fun rv h' hp => ?_)
  obtain ⟨r9, s9, rfl, rfl, hK⟩ := hp
  exact ⟨rfl, rfl, hK⟩
set_option maxRecDepth 20000 in
theorem W_L_law_512 {scr : ScA}   {x3 : Int32} {y0 : Int32} {y1 : Int32}  {σ : Nat → Nat → Int32} {P : Int32 → (Nat → Nat → Int32) → Prop} (H : (y0 = y1 → K_L_law_18 scr (x3 + 6) σ P) ∧ (¬ y0 = y1 → P 0 σ)) : K_L_law_512 scr x3 y0 y1 σ P := by
  show XA scr 11 mL 172 4705 512 [some (.retAddr 4), some (.ref 0), some (.ref 136), some (.int x3)] [.int y1, .int y0] (hs σ) (pI P)
  refine XA.icmp_eq (663) 1175 (by decide +kernel) (fun c1 => ?_) (fun c1 => ?_)
  · have H := H.1 c1
    refine XA.blk (e9 := 18) (ok := true) (ls' := [some (.retAddr 4), some (.ref 0), some (.ref 136), some (.int (x3 + 6))]) (st' := []) (h' := hs σ) [(.iinc 3 6, 3, 3, 0, 0, 0, 6, 0), (.goto (-1160), 3, 18, 0, 0, 0, 0, 0)] (by decide +kernel) rfl rfl ?_
    exact H
  · have H := H.2 c1
    refine XA.blk (e9 := 516) (ok := true) (ls' := [some (.retAddr 4), some (.ref 0), some (.ref 136), some (.int x3)]) (st' := [.int 0]) (h' := hs σ) [(.iconst 0, 1, 0, 0, 0, 0, 0, 0)] (by decide +kernel) rfl rfl ?_
    exact XA.ret (some (.int 0)) rfl (show ckRt mL 516 .ireturn = true by decide +kernel) (Or.inl rfl) (Nat.le_of_ble_eq_true rfl) (Nat.le_of_ble_eq_true rfl) ⟨_, _, rfl, rfl, H⟩
set_option maxRecDepth 20000 in
theorem W_L_law_526 {scr : ScA}   {x3 : Int32} {y0 : Int32}  {σ : Nat → Nat → Int32} {P : Int32 → (Nat → Nat → Int32) → Prop} (H : (inB (x3 + 1) scr.1 = true) ∧ (CiA scr 8 mX11_most [.ref 136, .int (tbV scr 4 (Int32.toNatClampNeg (x3 + 1)))] σ (fun r9 σ' => K_L_law_535 scr x3 y0 r9 σ' P))) : K_L_law_526 scr x3 y0 σ P := by
  show XA scr 11 mL 172 4705 526 [some (.retAddr 4), some (.ref 0), some (.ref 136), some (.int x3)] [.int y0] (hs σ) (pI P)
  obtain ⟨o1, H⟩ := H
  refine XA.blk (e9 := 532) (ok := inB (x3 + 1) scr.1 && (true)) (ls' := [some (.retAddr 4), some (.ref 0), some (.ref 136), some (.int x3)]) (st' := [.int (tbV scr 4 (Int32.toNatClampNeg (x3 + 1))), .ref 136, .int y0]) (h' := hs σ) [(.aload_n 2, 1, 2, 0, 0, 0, 0, 0), (.aload_n 0, 1, 0, 0, 0, 0, 0, 0), (.iload_n 3, 1, 3, 0, 0, 0, 0, 0), (.iconst 1, 1, 0, 0, 0, 0, 1, 0), (.iadd, 1, 0, 0, 0, 0, 0, 0), (.iaload, 1, 0, 0, 0, 0, 0, 0)] (by decide +kernel) rfl (by simp only [o1, Bool.and_true, Bool.true_and]) ?_
  refine XA.callV (as := [.int (tbV scr 4 (Int32.toNatClampNeg (x3 + 1)))]) (rest := [.int y0]) (mc' := 0) (ms' := 0) (idx := 72) (t := 1226) cv_X11_most (by decide +kernel) rfl rfl rfl (Nat.le_of_ble_eq_true rfl) (Nat.le_of_ble_eq_true rfl) (Nat.le_of_ble_eq_true rfl) (Nat.le_of_ble_eq_true rfl) (H) (fun rv h' hp => ?_)
  obtain ⟨r9, s9, rfl, rfl, hK⟩ := hp
  exact ⟨rfl, rfl, hK⟩
set_option maxRecDepth 20000 in
theorem W_L_law_535 {scr : ScA}   {x3 : Int32} {y0 : Int32} {y1 : Int32}  {σ : Nat → Nat → Int32} {P : Int32 → (Nat → Nat → Int32) → Prop} (H : (y0 = y1 → K_L_law_18 scr (x3 + 6) σ P) ∧ (¬ y0 = y1 → P 0 σ)) : K_L_law_535 scr x3 y0 y1 σ P := by
  show XA scr 11 mL 172 4705 535 [some (.retAddr 4), some (.ref 0), some (.ref 136), some (.int x3)] [.int y1, .int y0] (hs σ) (pI P)
  refine XA.icmp_eq (640) 1175 (by decide +kernel) (fun c1 => ?_) (fun c1 => ?_)
  · have H := H.1 c1
    refine XA.blk (e9 := 18) (ok := true) (ls' := [some (.retAddr 4), some (.ref 0), some (.ref 136), some (.int (x3 + 6))]) (st' := []) (h' := hs σ) [(.iinc 3 6, 3, 3, 0, 0, 0, 6, 0), (.goto (-1160), 3, 18, 0, 0, 0, 0, 0)] (by decide +kernel) rfl rfl ?_
    exact H
  · have H := H.2 c1
    refine XA.blk (e9 := 539) (ok := true) (ls' := [some (.retAddr 4), some (.ref 0), some (.ref 136), some (.int x3)]) (st' := [.int 0]) (h' := hs σ) [(.iconst 0, 1, 0, 0, 0, 0, 0, 0)] (by decide +kernel) rfl rfl ?_
    exact XA.ret (some (.int 0)) rfl (show ckRt mL 539 .ireturn = true by decide +kernel) (Or.inl rfl) (Nat.le_of_ble_eq_true rfl) (Nat.le_of_ble_eq_true rfl) ⟨_, _, rfl, rfl, H⟩
set_option maxRecDepth 20000 in
theorem W_L_law_544 {scr : ScA}   {x3 : Int32} {y0 : Int32}  {σ : Nat → Nat → Int32} {P : Int32 → (Nat → Nat → Int32) → Prop} (H : CiA scr 8 mX11_clumsy [.ref 136] σ (fun r9 σ' => K_L_law_548 scr x3 y0 r9 σ' P)) : K_L_law_544 scr x3 y0 σ P := by
  show XA scr 11 mL 172 4705 544 [some (.retAddr 4), some (.ref 0), some (.ref 136), some (.int x3)] [.int y0] (hs σ) (pI P)
  refine XA.blk (e9 := 545) (ok := true) (ls' := [some (.retAddr 4), some (.ref 0), some (.ref 136), some (.int x3)]) (st' := [.ref 136, .int y0]) (h' := hs σ) [(.aload_n 2, 1, 2, 0, 0, 0, 0, 0)] (by decide +kernel) rfl rfl ?_
  refine XA.callV (as := []) (rest := [.int y0]) (mc' := 0) (ms' := 0) (idx := 76) (t := 1234) cv_X11_clumsy (by decide +kernel) rfl rfl rfl (Nat.le_of_ble_eq_true rfl) (Nat.le_of_ble_eq_true rfl) (Nat.le_of_ble_eq_true rfl) (Nat.le_of_ble_eq_true rfl) (H) (fun rv h' hp => ?_)
  obtain ⟨r9, s9, rfl, rfl, hK⟩ := hp
  exact ⟨rfl, rfl, hK⟩
set_option maxRecDepth 20000 in
theorem W_L_law_548 {scr : ScA}   {x3 : Int32} {y0 : Int32} {y1 : Int32}  {σ : Nat → Nat → Int32} {P : Int32 → (Nat → Nat → Int32) → Prop} (H : (y0 = y1 → K_L_law_18 scr (x3 + 6) σ P) ∧ (¬ y0 = y1 → P 0 σ)) : K_L_law_548 scr x3 y0 y1 σ P := by
  show XA scr 11 mL 172 4705 548 [some (.retAddr 4), some (.ref 0), some (.ref 136), some (.int x3)] [.int y1, .int y0] (hs σ) (pI P)
  refine XA.icmp_eq (627) 1175 (by decide +kernel) (fun c1 => ?_) (fun c1 => ?_)
  · have H := H.1 c1
    refine XA.blk (e9 := 18) (ok := true) (ls' := [some (.retAddr 4), some (.ref 0), some (.ref 136), some (.int (x3 + 6))]) (st' := []) (h' := hs σ) [(.iinc 3 6, 3, 3, 0, 0, 0, 6, 0), (.goto (-1160), 3, 18, 0, 0, 0, 0, 0)] (by decide +kernel) rfl rfl ?_
    exact H
  · have H := H.2 c1
    refine XA.blk (e9 := 552) (ok := true) (ls' := [some (.retAddr 4), some (.ref 0), some (.ref 136), some (.int x3)]) (st' := [.int 0]) (h' := hs σ) [(.iconst 0, 1, 0, 0, 0, 0, 0, 0)] (by decide +kernel) rfl rfl ?_
    exact XA.ret (some (.int 0)) rfl (show ckRt mL 552 .ireturn = true by decide +kernel) (Or.inl rfl) (Nat.le_of_ble_eq_true rfl) (Nat.le_of_ble_eq_true rfl) ⟨_, _, rfl, rfl, H⟩
set_option maxRecDepth 20000 in
theorem W_L_law_557 {scr : ScA}   {x3 : Int32} {y0 : Int32}  {σ : Nat → Nat → Int32} {P : Int32 → (Nat → Nat → Int32) → Prop} (H : CiA scr 8 mX11_down [.ref 136] σ (fun r9 σ' => K_L_law_561 scr x3 y0 r9 σ' P)) : K_L_law_557 scr x3 y0 σ P := by
  show XA scr 11 mL 172 4705 557 [some (.retAddr 4), some (.ref 0), some (.ref 136), some (.int x3)] [.int y0] (hs σ) (pI P)
  refine XA.blk (e9 := 558) (ok := true) (ls' := [some (.retAddr 4), some (.ref 0), some (.ref 136), some (.int x3)]) (st' := [.ref 136, .int y0]) (h' := hs σ) [(.aload_n 2, 1, 2, 0, 0, 0, 0, 0)] (by decide +kernel) rfl rfl ?_
  refine XA.callV (as := []) (rest := [.int y0]) (mc' := 0) (ms' := 0) (idx := 80) (t := 1242) cv_X11_down (by decide +kernel) rfl rfl rfl (Nat.le_of_ble_eq_true rfl) (Nat.le_of_ble_eq_true rfl) (Nat.le_of_ble_eq_true rfl) (Nat.le_of_ble_eq_true rfl) (H) (fun rv h' hp => ?_)
  obtain ⟨r9, s9, rfl, rfl, hK⟩ := hp
  exact ⟨rfl, rfl, hK⟩
set_option maxRecDepth 20000 in
theorem W_L_law_561 {scr : ScA}   {x3 : Int32} {y0 : Int32} {y1 : Int32}  {σ : Nat → Nat → Int32} {P : Int32 → (Nat → Nat → Int32) → Prop} (H : (y0 = y1 → K_L_law_18 scr (x3 + 6) σ P) ∧ (¬ y0 = y1 → P 0 σ)) : K_L_law_561 scr x3 y0 y1 σ P := by
  show XA scr 11 mL 172 4705 561 [some (.retAddr 4), some (.ref 0), some (.ref 136), some (.int x3)] [.int y1, .int y0] (hs σ) (pI P)
  refine XA.icmp_eq (614) 1175 (by decide +kernel) (fun c1 => ?_) (fun c1 => ?_)
  · have H := H.1 c1
    refine XA.blk (e9 := 18) (ok := true) (ls' := [some (.retAddr 4), some (.ref 0), some (.ref 136), some (.int (x3 + 6))]) (st' := []) (h' := hs σ) [(.iinc 3 6, 3, 3, 0, 0, 0, 6, 0), (.goto (-1160), 3, 18, 0, 0, 0, 0, 0)] (by decide +kernel) rfl rfl ?_
    exact H
  · have H := H.2 c1
    refine XA.blk (e9 := 565) (ok := true) (ls' := [some (.retAddr 4), some (.ref 0), some (.ref 136), some (.int x3)]) (st' := [.int 0]) (h' := hs σ) [(.iconst 0, 1, 0, 0, 0, 0, 0, 0)] (by decide +kernel) rfl rfl ?_
    exact XA.ret (some (.int 0)) rfl (show ckRt mL 565 .ireturn = true by decide +kernel) (Or.inl rfl) (Nat.le_of_ble_eq_true rfl) (Nat.le_of_ble_eq_true rfl) ⟨_, _, rfl, rfl, H⟩
set_option maxRecDepth 20000 in
theorem W_L_law_575 {scr : ScA}   {x3 : Int32} {y0 : Int32}  {σ : Nat → Nat → Int32} {P : Int32 → (Nat → Nat → Int32) → Prop} (H : (inB (x3 + 1) scr.1 = true) ∧ (CiA scr 8 mX11_swap [.ref 136, .int (tbV scr 4 (Int32.toNatClampNeg (x3 + 1)))] σ (fun r9 σ' => K_L_law_584 scr x3 y0 r9 σ' P))) : K_L_law_575 scr x3 y0 σ P := by
  show XA scr 11 mL 172 4705 575 [some (.retAddr 4), some (.ref 0), some (.ref 136), some (.int x3)] [.int y0] (hs σ) (pI P)
  obtain ⟨o1, H⟩ := H
  refine XA.blk (e9 := 581) (ok := inB (x3 + 1) scr.1 && (true)) (ls' := [some (.retAddr 4), some (.ref 0), some (.ref 136), some (.int x3)]) (st' := [.int (tbV scr 4 (Int32.toNatClampNeg (x3 + 1))), .ref 136, .int y0]) (h' := hs σ) [(.aload_n 2, 1, 2, 0, 0, 0, 0, 0), (.aload_n 0, 1, 0, 0, 0, 0, 0, 0), (.iload_n 3, 1, 3, 0, 0, 0, 0, 0), (.iconst 1, 1, 0, 0, 0, 0, 1, 0), (.iadd, 1, 0, 0, 0, 0, 0, 0), (.iaload, 1, 0, 0, 0, 0, 0, 0)] (by decide +kernel) rfl (by simp only [o1, Bool.and_true, Bool.true_and]) ?_
  refine XA.callV (as := [.int (tbV scr 4 (Int32.toNatClampNeg (x3 + 1)))]) (rest := [.int y0]) (mc' := 0) (ms' := 0) (idx := 84) (t := 1250) cv_X11_swap (by decide +kernel) rfl rfl rfl (Nat.le_of_ble_eq_true rfl) (Nat.le_of_ble_eq_true rfl) (Nat.le_of_ble_eq_true rfl) (Nat.le_of_ble_eq_true rfl) (H) (fun rv h' hp => ?_)
  obtain ⟨r9, s9, rfl, rfl, hK⟩ := hp
  exact ⟨rfl, rfl, hK⟩
set_option maxRecDepth 20000 in
theorem W_L_law_584 {scr : ScA}   {x3 : Int32} {y0 : Int32} {y1 : Int32}  {σ : Nat → Nat → Int32} {P : Int32 → (Nat → Nat → Int32) → Prop} (H : (y0 = y1 → K_L_law_18 scr (x3 + 6) σ P) ∧ (¬ y0 = y1 → P 0 σ)) : K_L_law_584 scr x3 y0 y1 σ P := by
  show XA scr 11 mL 172 4705 584 [some (.retAddr 4), some (.ref 0), some (.ref 136), some (.int x3)] [.int y1, .int y0] (hs σ) (pI P)
  refine XA.icmp_eq (591) 1175 (by decide +kernel) (fun c1 => ?_) (fun c1 => ?_)
  · have H := H.1 c1
    refine XA.blk (e9 := 18) (ok := true) (ls' := [some (.retAddr 4), some (.ref 0), some (.ref 136), some (.int (x3 + 6))]) (st' := []) (h' := hs σ) [(.iinc 3 6, 3, 3, 0, 0, 0, 6, 0), (.goto (-1160), 3, 18, 0, 0, 0, 0, 0)] (by decide +kernel) rfl rfl ?_
    exact H
  · have H := H.2 c1
    refine XA.blk (e9 := 588) (ok := true) (ls' := [some (.retAddr 4), some (.ref 0), some (.ref 136), some (.int x3)]) (st' := [.int 0]) (h' := hs σ) [(.iconst 0, 1, 0, 0, 0, 0, 0, 0)] (by decide +kernel) rfl rfl ?_
    exact XA.ret (some (.int 0)) rfl (show ckRt mL 588 .ireturn = true by decide +kernel) (Or.inl rfl) (Nat.le_of_ble_eq_true rfl) (Nat.le_of_ble_eq_true rfl) ⟨_, _, rfl, rfl, H⟩
set_option maxRecDepth 20000 in
theorem W_L_law_603 {scr : ScA}   {x3 : Int32} {y0 : Int32}  {σ : Nat → Nat → Int32} {P : Int32 → (Nat → Nat → Int32) → Prop} (H : (inB (x3 + 1) scr.1 = true) ∧ (inB (x3 + 2) scr.1 = true) ∧ (CiA scr 8 mX11_come [.ref 136, .int (tbV scr 4 (Int32.toNatClampNeg (x3 + 1))), .int (tbV scr 4 (Int32.toNatClampNeg (x3 + 2)))] σ (fun r9 σ' => K_L_law_617 scr x3 y0 r9 σ' P))) : K_L_law_603 scr x3 y0 σ P := by
  show XA scr 11 mL 172 4705 603 [some (.retAddr 4), some (.ref 0), some (.ref 136), some (.int x3)] [.int y0] (hs σ) (pI P)
  obtain ⟨o1, o2, H⟩ := H
  refine XA.blk (e9 := 614) (ok := inB (x3 + 1) scr.1 && (inB (x3 + 2) scr.1 && (true))) (ls' := [some (.retAddr 4), some (.ref 0), some (.ref 136), some (.int x3)]) (st' := [.int (tbV scr 4 (Int32.toNatClampNeg (x3 + 2))), .int (tbV scr 4 (Int32.toNatClampNeg (x3 + 1))), .ref 136, .int y0]) (h' := hs σ) [(.aload_n 2, 1, 2, 0, 0, 0, 0, 0), (.aload_n 0, 1, 0, 0, 0, 0, 0, 0), (.iload_n 3, 1, 3, 0, 0, 0, 0, 0), (.iconst 1, 1, 0, 0, 0, 0, 1, 0), (.iadd, 1, 0, 0, 0, 0, 0, 0), (.iaload, 1, 0, 0, 0, 0, 0, 0), (.aload_n 0, 1, 0, 0, 0, 0, 0, 0), (.iload_n 3, 1, 3, 0, 0, 0, 0, 0), (.iconst 2, 1, 0, 0, 0, 0, 2, 0), (.iadd, 1, 0, 0, 0, 0, 0, 0), (.iaload, 1, 0, 0, 0, 0, 0, 0)] (by decide +kernel) rfl (by simp only [o1, o2, Bool.and_true, Bool.true_and]) ?_
  refine XA.callV (as := [.int (tbV scr 4 (Int32.toNatClampNeg (x3 + 1))), .int (tbV scr 4 (Int32.toNatClampNeg (x3 + 2)))]) (rest := [.int y0]) (mc' := 0) (ms' := 0) (idx := 88) (t := 1266) cv_X11_come (by decide +kernel) rfl rfl rfl (Nat.le_of_ble_eq_true rfl) (Nat.le_of_ble_eq_true rfl) (Nat.le_of_ble_eq_true rfl) (Nat.le_of_ble_eq_true rfl) (H) (fun rv h' hp => ?_)
  obtain ⟨r9, s9, rfl, rfl, hK⟩ := hp
  exact ⟨rfl, rfl, hK⟩
set_option maxRecDepth 20000 in
theorem W_L_law_617 {scr : ScA}   {x3 : Int32} {y0 : Int32} {y1 : Int32}  {σ : Nat → Nat → Int32} {P : Int32 → (Nat → Nat → Int32) → Prop} (H : (y0 = y1 → K_L_law_18 scr (x3 + 6) σ P) ∧ (¬ y0 = y1 → P 0 σ)) : K_L_law_617 scr x3 y0 y1 σ P := by
  show XA scr 11 mL 172 4705 617 [some (.retAddr 4), some (.ref 0), some (.ref 136), some (.int x3)] [.int y1, .int y0] (hs σ) (pI P)
  refine XA.icmp_eq (558) 1175 (by decide +kernel) (fun c1 => ?_) (fun c1 => ?_)
  · have H := H.1 c1
    refine XA.blk (e9 := 18) (ok := true) (ls' := [some (.retAddr 4), some (.ref 0), some (.ref 136), some (.int (x3 + 6))]) (st' := []) (h' := hs σ) [(.iinc 3 6, 3, 3, 0, 0, 0, 6, 0), (.goto (-1160), 3, 18, 0, 0, 0, 0, 0)] (by decide +kernel) rfl rfl ?_
    exact H
  · have H := H.2 c1
    refine XA.blk (e9 := 621) (ok := true) (ls' := [some (.retAddr 4), some (.ref 0), some (.ref 136), some (.int x3)]) (st' := [.int 0]) (h' := hs σ) [(.iconst 0, 1, 0, 0, 0, 0, 0, 0)] (by decide +kernel) rfl rfl ?_
    exact XA.ret (some (.int 0)) rfl (show ckRt mL 621 .ireturn = true by decide +kernel) (Or.inl rfl) (Nat.le_of_ble_eq_true rfl) (Nat.le_of_ble_eq_true rfl) ⟨_, _, rfl, rfl, H⟩
set_option maxRecDepth 20000 in
theorem W_L_law_631 {scr : ScA}   {x3 : Int32} {y0 : Int32}  {σ : Nat → Nat → Int32} {P : Int32 → (Nat → Nat → Int32) → Prop} (H : (inB (x3 + 1) scr.1 = true) ∧ (CiA scr 8 mX11_train [.ref 136, .int (tbV scr 4 (Int32.toNatClampNeg (x3 + 1)))] σ (fun r9 σ' => K_L_law_640 scr x3 y0 r9 σ' P))) : K_L_law_631 scr x3 y0 σ P := by
  show XA scr 11 mL 172 4705 631 [some (.retAddr 4), some (.ref 0), some (.ref 136), some (.int x3)] [.int y0] (hs σ) (pI P)
  obtain ⟨o1, H⟩ := H
  refine XA.blk (e9 := 637) (ok := inB (x3 + 1) scr.1 && (true)) (ls' := [some (.retAddr 4), some (.ref 0), some (.ref 136), some (.int x3)]) (st' := [.int (tbV scr 4 (Int32.toNatClampNeg (x3 + 1))), .ref 136, .int y0]) (h' := hs σ) [(.aload_n 2, 1, 2, 0, 0, 0, 0, 0), (.aload_n 0, 1, 0, 0, 0, 0, 0, 0), (.iload_n 3, 1, 3, 0, 0, 0, 0, 0), (.iconst 1, 1, 0, 0, 0, 0, 1, 0), (.iadd, 1, 0, 0, 0, 0, 0, 0), (.iaload, 1, 0, 0, 0, 0, 0, 0)] (by decide +kernel) rfl (by simp only [o1, Bool.and_true, Bool.true_and]) ?_
  refine XA.callV (as := [.int (tbV scr 4 (Int32.toNatClampNeg (x3 + 1)))]) (rest := [.int y0]) (mc' := 0) (ms' := 0) (idx := 92) (t := 1274) cv_X11_train (by decide +kernel) rfl rfl rfl (Nat.le_of_ble_eq_true rfl) (Nat.le_of_ble_eq_true rfl) (Nat.le_of_ble_eq_true rfl) (Nat.le_of_ble_eq_true rfl) (H) (fun rv h' hp => ?_)
  obtain ⟨r9, s9, rfl, rfl, hK⟩ := hp
  exact ⟨rfl, rfl, hK⟩
set_option maxRecDepth 20000 in
theorem W_L_law_640 {scr : ScA}   {x3 : Int32} {y0 : Int32} {y1 : Int32}  {σ : Nat → Nat → Int32} {P : Int32 → (Nat → Nat → Int32) → Prop} (H : (y0 = y1 → K_L_law_18 scr (x3 + 6) σ P) ∧ (¬ y0 = y1 → P 0 σ)) : K_L_law_640 scr x3 y0 y1 σ P := by
  show XA scr 11 mL 172 4705 640 [some (.retAddr 4), some (.ref 0), some (.ref 136), some (.int x3)] [.int y1, .int y0] (hs σ) (pI P)
  refine XA.icmp_eq (535) 1175 (by decide +kernel) (fun c1 => ?_) (fun c1 => ?_)
  · have H := H.1 c1
    refine XA.blk (e9 := 18) (ok := true) (ls' := [some (.retAddr 4), some (.ref 0), some (.ref 136), some (.int (x3 + 6))]) (st' := []) (h' := hs σ) [(.iinc 3 6, 3, 3, 0, 0, 0, 6, 0), (.goto (-1160), 3, 18, 0, 0, 0, 0, 0)] (by decide +kernel) rfl rfl ?_
    exact H
  · have H := H.2 c1
    refine XA.blk (e9 := 644) (ok := true) (ls' := [some (.retAddr 4), some (.ref 0), some (.ref 136), some (.int x3)]) (st' := [.int 0]) (h' := hs σ) [(.iconst 0, 1, 0, 0, 0, 0, 0, 0)] (by decide +kernel) rfl rfl ?_
    exact XA.ret (some (.int 0)) rfl (show ckRt mL 644 .ireturn = true by decide +kernel) (Or.inl rfl) (Nat.le_of_ble_eq_true rfl) (Nat.le_of_ble_eq_true rfl) ⟨_, _, rfl, rfl, H⟩
set_option maxRecDepth 20000 in
theorem W_L_law_654 {scr : ScA}   {x3 : Int32} {y0 : Int32}  {σ : Nat → Nat → Int32} {P : Int32 → (Nat → Nat → Int32) → Prop} (H : (inB (x3 + 1) scr.1 = true) ∧ (CiA scr 7 mX11_spare [.ref 136, .int (tbV scr 4 (Int32.toNatClampNeg (x3 + 1)))] σ (fun r9 σ' => K_L_law_663 scr x3 y0 r9 σ' P))) : K_L_law_654 scr x3 y0 σ P := by
  show XA scr 11 mL 172 4705 654 [some (.retAddr 4), some (.ref 0), some (.ref 136), some (.int x3)] [.int y0] (hs σ) (pI P)
  obtain ⟨o1, H⟩ := H
  refine XA.blk (e9 := 660) (ok := inB (x3 + 1) scr.1 && (true)) (ls' := [some (.retAddr 4), some (.ref 0), some (.ref 136), some (.int x3)]) (st' := [.int (tbV scr 4 (Int32.toNatClampNeg (x3 + 1))), .ref 136, .int y0]) (h' := hs σ) [(.aload_n 2, 1, 2, 0, 0, 0, 0, 0), (.aload_n 0, 1, 0, 0, 0, 0, 0, 0), (.iload_n 3, 1, 3, 0, 0, 0, 0, 0), (.iconst 1, 1, 0, 0, 0, 0, 1, 0), (.iadd, 1, 0, 0, 0, 0, 0, 0), (.iaload, 1, 0, 0, 0, 0, 0, 0)] (by decide +kernel) rfl (by simp only [o1, Bool.and_true, Bool.true_and]) ?_
  refine XA.callV (as := [.int (tbV scr 4 (Int32.toNatClampNeg (x3 + 1)))]) (rest := [.int y0]) (mc' := 0) (ms' := 0) (idx := 96) (t := 1282) cv_X11_spare (by decide +kernel) rfl rfl rfl (Nat.le_of_ble_eq_true rfl) (Nat.le_of_ble_eq_true rfl) (Nat.le_of_ble_eq_true rfl) (Nat.le_of_ble_eq_true rfl) (H) (fun rv h' hp => ?_)
  obtain ⟨r9, s9, rfl, rfl, hK⟩ := hp
  exact ⟨rfl, rfl, hK⟩
set_option maxRecDepth 20000 in
theorem W_L_law_663 {scr : ScA}   {x3 : Int32} {y0 : Int32} {y1 : Int32}  {σ : Nat → Nat → Int32} {P : Int32 → (Nat → Nat → Int32) → Prop} (H : (y0 = y1 → K_L_law_18 scr (x3 + 6) σ P) ∧ (¬ y0 = y1 → P 0 σ)) : K_L_law_663 scr x3 y0 y1 σ P := by
  show XA scr 11 mL 172 4705 663 [some (.retAddr 4), some (.ref 0), some (.ref 136), some (.int x3)] [.int y1, .int y0] (hs σ) (pI P)
  refine XA.icmp_eq (512) 1175 (by decide +kernel) (fun c1 => ?_) (fun c1 => ?_)
  · have H := H.1 c1
    refine XA.blk (e9 := 18) (ok := true) (ls' := [some (.retAddr 4), some (.ref 0), some (.ref 136), some (.int (x3 + 6))]) (st' := []) (h' := hs σ) [(.iinc 3 6, 3, 3, 0, 0, 0, 6, 0), (.goto (-1160), 3, 18, 0, 0, 0, 0, 0)] (by decide +kernel) rfl rfl ?_
    exact H
  · have H := H.2 c1
    refine XA.blk (e9 := 667) (ok := true) (ls' := [some (.retAddr 4), some (.ref 0), some (.ref 136), some (.int x3)]) (st' := [.int 0]) (h' := hs σ) [(.iconst 0, 1, 0, 0, 0, 0, 0, 0)] (by decide +kernel) rfl rfl ?_
    exact XA.ret (some (.int 0)) rfl (show ckRt mL 667 .ireturn = true by decide +kernel) (Or.inl rfl) (Nat.le_of_ble_eq_true rfl) (Nat.le_of_ble_eq_true rfl) ⟨_, _, rfl, rfl, H⟩
set_option maxRecDepth 20000 in
theorem W_L_law_687 {scr : ScA}   {x3 : Int32} {y0 : Int32}  {σ : Nat → Nat → Int32} {P : Int32 → (Nat → Nat → Int32) → Prop} (H : (inB (x3 + 1) scr.1 = true) ∧ (inB (x3 + 2) scr.1 = true) ∧ (inB (x3 + 3) scr.1 = true) ∧ (CiA scr 2 mX11_seen [.ref 136, .int (tbV scr 4 (Int32.toNatClampNeg (x3 + 1))), .int (tbV scr 4 (Int32.toNatClampNeg (x3 + 2))), .int (tbV scr 4 (Int32.toNatClampNeg (x3 + 3)))] σ (fun r9 σ' => K_L_law_706 scr x3 y0 r9 σ' P))) : K_L_law_687 scr x3 y0 σ P := by
  show XA scr 11 mL 172 4705 687 [some (.retAddr 4), some (.ref 0), some (.ref 136), some (.int x3)] [.int y0] (hs σ) (pI P)
  obtain ⟨o1, o2, o3, H⟩ := H
  refine XA.blk (e9 := 703) (ok := inB (x3 + 1) scr.1 && (inB (x3 + 2) scr.1 && (inB (x3 + 3) scr.1 && (true)))) (ls' := [some (.retAddr 4), some (.ref 0), some (.ref 136), some (.int x3)]) (st' := [.int (tbV scr 4 (Int32.toNatClampNeg (x3 + 3))), .int (tbV scr 4 (Int32.toNatClampNeg (x3 + 2))), .int (tbV scr 4 (Int32.toNatClampNeg (x3 + 1))), .ref 136, .int y0]) (h' := hs σ) [(.aload_n 2, 1, 2, 0, 0, 0, 0, 0), (.aload_n 0, 1, 0, 0, 0, 0, 0, 0), (.iload_n 3, 1, 3, 0, 0, 0, 0, 0), (.iconst 1, 1, 0, 0, 0, 0, 1, 0), (.iadd, 1, 0, 0, 0, 0, 0, 0), (.iaload, 1, 0, 0, 0, 0, 0, 0), (.aload_n 0, 1, 0, 0, 0, 0, 0, 0), (.iload_n 3, 1, 3, 0, 0, 0, 0, 0), (.iconst 2, 1, 0, 0, 0, 0, 2, 0), (.iadd, 1, 0, 0, 0, 0, 0, 0), (.iaload, 1, 0, 0, 0, 0, 0, 0), (.aload_n 0, 1, 0, 0, 0, 0, 0, 0), (.iload_n 3, 1, 3, 0, 0, 0, 0, 0), (.iconst 3, 1, 0, 0, 0, 0, 3, 0), (.iadd, 1, 0, 0, 0, 0, 0, 0), (.iaload, 1, 0, 0, 0, 0, 0, 0)] (by decide +kernel) rfl (by simp only [o1, o2, o3, Bool.and_true, Bool.true_and]) ?_
  refine XA.callV (as := [.int (tbV scr 4 (Int32.toNatClampNeg (x3 + 1))), .int (tbV scr 4 (Int32.toNatClampNeg (x3 + 2))), .int (tbV scr 4 (Int32.toNatClampNeg (x3 + 3)))]) (rest := [.int y0]) (mc' := 0) (ms' := 0) (idx := 100) (t := 1298) cv_X11_seen (by decide +kernel) rfl rfl rfl (Nat.le_of_ble_eq_true rfl) (Nat.le_of_ble_eq_true rfl) (Nat.le_of_ble_eq_true rfl) (Nat.le_of_ble_eq_true rfl) (H) (fun rv h' hp => ?_)
  obtain ⟨r9, s9, rfl, rfl, hK⟩ := hp
  exact ⟨rfl, rfl, hK⟩
set_option maxRecDepth 20000 in
theorem W_L_law_706 {scr : ScA}   {x3 : Int32} {y0 : Int32} {y1 : Int32}  {σ : Nat → Nat → Int32} {P : Int32 → (Nat → Nat → Int32) → Prop} (H : (y0 = y1 → K_L_law_18 scr (x3 + 6) σ P) ∧ (¬ y0 = y1 → P 0 σ)) : K_L_law_706 scr x3 y0 y1 σ P := by
  show XA scr 11 mL 172 4705 706 [some (.retAddr 4), some (.ref 0), some (.ref 136), some (.int x3)] [.int y1, .int y0] (hs σ) (pI P)
  refine XA.icmp_eq (469) 1175 (by decide +kernel) (fun c1 => ?_) (fun c1 => ?_)
  · have H := H.1 c1
    refine XA.blk (e9 := 18) (ok := true) (ls' := [some (.retAddr 4), some (.ref 0), some (.ref 136), some (.int (x3 + 6))]) (st' := []) (h' := hs σ) [(.iinc 3 6, 3, 3, 0, 0, 0, 6, 0), (.goto (-1160), 3, 18, 0, 0, 0, 0, 0)] (by decide +kernel) rfl rfl ?_
    exact H
  · have H := H.2 c1
    refine XA.blk (e9 := 710) (ok := true) (ls' := [some (.retAddr 4), some (.ref 0), some (.ref 136), some (.int x3)]) (st' := [.int 0]) (h' := hs σ) [(.iconst 0, 1, 0, 0, 0, 0, 0, 0)] (by decide +kernel) rfl rfl ?_
    exact XA.ret (some (.int 0)) rfl (show ckRt mL 710 .ireturn = true by decide +kernel) (Or.inl rfl) (Nat.le_of_ble_eq_true rfl) (Nat.le_of_ble_eq_true rfl) ⟨_, _, rfl, rfl, H⟩
set_option maxRecDepth 20000 in
theorem W_L_law_715 {scr : ScA}   {x3 : Int32} {y0 : Int32}  {σ : Nat → Nat → Int32} {P : Int32 → (Nat → Nat → Int32) → Prop} (H : CiA scr 0 mX11_forget [.ref 136] σ (fun r9 σ' => K_L_law_719 scr x3 y0 r9 σ' P)) : K_L_law_715 scr x3 y0 σ P := by
  show XA scr 11 mL 172 4705 715 [some (.retAddr 4), some (.ref 0), some (.ref 136), some (.int x3)] [.int y0] (hs σ) (pI P)
  refine XA.blk (e9 := 716) (ok := true) (ls' := [some (.retAddr 4), some (.ref 0), some (.ref 136), some (.int x3)]) (st' := [.ref 136, .int y0]) (h' := hs σ) [(.aload_n 2, 1, 2, 0, 0, 0, 0, 0)] (by decide +kernel) rfl rfl ?_
  refine XA.callV (as := []) (rest := [.int y0]) (mc' := 0) (ms' := 0) (idx := 104) (t := 1302) cv_X11_forget (by decide +kernel) rfl rfl rfl (Nat.le_of_ble_eq_true rfl) (Nat.le_of_ble_eq_true rfl) (Nat.le_of_ble_eq_true rfl) (Nat.le_of_ble_eq_true rfl) (H) (fun rv h' hp => ?_)
  obtain ⟨r9, s9, rfl, rfl, hK⟩ := hp
  exact ⟨rfl, rfl, hK⟩
set_option maxRecDepth 20000 in
theorem W_L_law_719 {scr : ScA}   {x3 : Int32} {y0 : Int32} {y1 : Int32}  {σ : Nat → Nat → Int32} {P : Int32 → (Nat → Nat → Int32) → Prop} (H : (y0 = y1 → K_L_law_18 scr (x3 + 6) σ P) ∧ (¬ y0 = y1 → P 0 σ)) : K_L_law_719 scr x3 y0 y1 σ P := by
  show XA scr 11 mL 172 4705 719 [some (.retAddr 4), some (.ref 0), some (.ref 136), some (.int x3)] [.int y1, .int y0] (hs σ) (pI P)
  refine XA.icmp_eq (456) 1175 (by decide +kernel) (fun c1 => ?_) (fun c1 => ?_)
  · have H := H.1 c1
    refine XA.blk (e9 := 18) (ok := true) (ls' := [some (.retAddr 4), some (.ref 0), some (.ref 136), some (.int (x3 + 6))]) (st' := []) (h' := hs σ) [(.iinc 3 6, 3, 3, 0, 0, 0, 6, 0), (.goto (-1160), 3, 18, 0, 0, 0, 0, 0)] (by decide +kernel) rfl rfl ?_
    exact H
  · have H := H.2 c1
    refine XA.blk (e9 := 723) (ok := true) (ls' := [some (.retAddr 4), some (.ref 0), some (.ref 136), some (.int x3)]) (st' := [.int 0]) (h' := hs σ) [(.iconst 0, 1, 0, 0, 0, 0, 0, 0)] (by decide +kernel) rfl rfl ?_
    exact XA.ret (some (.int 0)) rfl (show ckRt mL 723 .ireturn = true by decide +kernel) (Or.inl rfl) (Nat.le_of_ble_eq_true rfl) (Nat.le_of_ble_eq_true rfl) ⟨_, _, rfl, rfl, H⟩
set_option maxRecDepth 20000 in
theorem W_L_law_728 {scr : ScA}   {x3 : Int32} {y0 : Int32}  {σ : Nat → Nat → Int32} {P : Int32 → (Nat → Nat → Int32) → Prop} (H : CiA scr 7 mX11_never [.ref 136] σ (fun r9 σ' => K_L_law_732 scr x3 y0 r9 σ' P)) : K_L_law_728 scr x3 y0 σ P := by
  show XA scr 11 mL 172 4705 728 [some (.retAddr 4), some (.ref 0), some (.ref 136), some (.int x3)] [.int y0] (hs σ) (pI P)
  refine XA.blk (e9 := 729) (ok := true) (ls' := [some (.retAddr 4), some (.ref 0), some (.ref 136), some (.int x3)]) (st' := [.ref 136, .int y0]) (h' := hs σ) [(.aload_n 2, 1, 2, 0, 0, 0, 0, 0)] (by decide +kernel) rfl rfl ?_
  refine XA.callV (as := []) (rest := [.int y0]) (mc' := 0) (ms' := 0) (idx := 108) (t := 1306) cv_X11_never (by decide +kernel) rfl rfl rfl (Nat.le_of_ble_eq_true rfl) (Nat.le_of_ble_eq_true rfl) (Nat.le_of_ble_eq_true rfl) (Nat.le_of_ble_eq_true rfl) (H) (fun rv h' hp => ?_)
  obtain ⟨r9, s9, rfl, rfl, hK⟩ := hp
  exact ⟨rfl, rfl, hK⟩
set_option maxRecDepth 20000 in
theorem W_L_law_732 {scr : ScA}   {x3 : Int32} {y0 : Int32} {y1 : Int32}  {σ : Nat → Nat → Int32} {P : Int32 → (Nat → Nat → Int32) → Prop} (H : (y0 = y1 → K_L_law_18 scr (x3 + 6) σ P) ∧ (¬ y0 = y1 → P 0 σ)) : K_L_law_732 scr x3 y0 y1 σ P := by
  show XA scr 11 mL 172 4705 732 [some (.retAddr 4), some (.ref 0), some (.ref 136), some (.int x3)] [.int y1, .int y0] (hs σ) (pI P)
  refine XA.icmp_eq (443) 1175 (by decide +kernel) (fun c1 => ?_) (fun c1 => ?_)
  · have H := H.1 c1
    refine XA.blk (e9 := 18) (ok := true) (ls' := [some (.retAddr 4), some (.ref 0), some (.ref 136), some (.int (x3 + 6))]) (st' := []) (h' := hs σ) [(.iinc 3 6, 3, 3, 0, 0, 0, 6, 0), (.goto (-1160), 3, 18, 0, 0, 0, 0, 0)] (by decide +kernel) rfl rfl ?_
    exact H
  · have H := H.2 c1
    refine XA.blk (e9 := 736) (ok := true) (ls' := [some (.retAddr 4), some (.ref 0), some (.ref 136), some (.int x3)]) (st' := [.int 0]) (h' := hs σ) [(.iconst 0, 1, 0, 0, 0, 0, 0, 0)] (by decide +kernel) rfl rfl ?_
    exact XA.ret (some (.int 0)) rfl (show ckRt mL 736 .ireturn = true by decide +kernel) (Or.inl rfl) (Nat.le_of_ble_eq_true rfl) (Nat.le_of_ble_eq_true rfl) ⟨_, _, rfl, rfl, H⟩
set_option maxRecDepth 20000 in
theorem W_L_law_751 {scr : ScA}   {x3 : Int32} {y0 : Int32}  {σ : Nat → Nat → Int32} {P : Int32 → (Nat → Nat → Int32) → Prop} (H : (inB (x3 + 1) scr.1 = true) ∧ (inB (x3 + 2) scr.1 = true) ∧ (CiA scr 7 mX11_was [.ref 136, .int (tbV scr 4 (Int32.toNatClampNeg (x3 + 1))), .int (tbV scr 4 (Int32.toNatClampNeg (x3 + 2)))] σ (fun r9 σ' => K_L_law_765 scr x3 y0 r9 σ' P))) : K_L_law_751 scr x3 y0 σ P := by
  show XA scr 11 mL 172 4705 751 [some (.retAddr 4), some (.ref 0), some (.ref 136), some (.int x3)] [.int y0] (hs σ) (pI P)
  obtain ⟨o1, o2, H⟩ := H
  refine XA.blk (e9 := 762) (ok := inB (x3 + 1) scr.1 && (inB (x3 + 2) scr.1 && (true))) (ls' := [some (.retAddr 4), some (.ref 0), some (.ref 136), some (.int x3)]) (st' := [.int (tbV scr 4 (Int32.toNatClampNeg (x3 + 2))), .int (tbV scr 4 (Int32.toNatClampNeg (x3 + 1))), .ref 136, .int y0]) (h' := hs σ) [(.aload_n 2, 1, 2, 0, 0, 0, 0, 0), (.aload_n 0, 1, 0, 0, 0, 0, 0, 0), (.iload_n 3, 1, 3, 0, 0, 0, 0, 0), (.iconst 1, 1, 0, 0, 0, 0, 1, 0), (.iadd, 1, 0, 0, 0, 0, 0, 0), (.iaload, 1, 0, 0, 0, 0, 0, 0), (.aload_n 0, 1, 0, 0, 0, 0, 0, 0), (.iload_n 3, 1, 3, 0, 0, 0, 0, 0), (.iconst 2, 1, 0, 0, 0, 0, 2, 0), (.iadd, 1, 0, 0, 0, 0, 0, 0), (.iaload, 1, 0, 0, 0, 0, 0, 0)] (by decide +kernel) rfl (by simp only [o1, o2, Bool.and_true, Bool.true_and]) ?_
  refine XA.callV (as := [.int (tbV scr 4 (Int32.toNatClampNeg (x3 + 1))), .int (tbV scr 4 (Int32.toNatClampNeg (x3 + 2)))]) (rest := [.int y0]) (mc' := 0) (ms' := 0) (idx := 112) (t := 1318) cv_X11_was (by decide +kernel) rfl rfl rfl (Nat.le_of_ble_eq_true rfl) (Nat.le_of_ble_eq_true rfl) (Nat.le_of_ble_eq_true rfl) (Nat.le_of_ble_eq_true rfl) (H) (fun rv h' hp => ?_)
  obtain ⟨r9, s9, rfl, rfl, hK⟩ := hp
  exact ⟨rfl, rfl, hK⟩
set_option maxRecDepth 20000 in
theorem W_L_law_765 {scr : ScA}   {x3 : Int32} {y0 : Int32} {y1 : Int32}  {σ : Nat → Nat → Int32} {P : Int32 → (Nat → Nat → Int32) → Prop} (H : (y0 = y1 → K_L_law_18 scr (x3 + 6) σ P) ∧ (¬ y0 = y1 → P 0 σ)) : K_L_law_765 scr x3 y0 y1 σ P := by
  show XA scr 11 mL 172 4705 765 [some (.retAddr 4), some (.ref 0), some (.ref 136), some (.int x3)] [.int y1, .int y0] (hs σ) (pI P)
  refine XA.icmp_eq (410) 1175 (by decide +kernel) (fun c1 => ?_) (fun c1 => ?_)
  · have H := H.1 c1
    refine XA.blk (e9 := 18) (ok := true) (ls' := [some (.retAddr 4), some (.ref 0), some (.ref 136), some (.int (x3 + 6))]) (st' := []) (h' := hs σ) [(.iinc 3 6, 3, 3, 0, 0, 0, 6, 0), (.goto (-1160), 3, 18, 0, 0, 0, 0, 0)] (by decide +kernel) rfl rfl ?_
    exact H
  · have H := H.2 c1
    refine XA.blk (e9 := 769) (ok := true) (ls' := [some (.retAddr 4), some (.ref 0), some (.ref 136), some (.int x3)]) (st' := [.int 0]) (h' := hs σ) [(.iconst 0, 1, 0, 0, 0, 0, 0, 0)] (by decide +kernel) rfl rfl ?_
    exact XA.ret (some (.int 0)) rfl (show ckRt mL 769 .ireturn = true by decide +kernel) (Or.inl rfl) (Nat.le_of_ble_eq_true rfl) (Nat.le_of_ble_eq_true rfl) ⟨_, _, rfl, rfl, H⟩
set_option maxRecDepth 20000 in
theorem W_L_law_779 {scr : ScA}   {x3 : Int32} {y0 : Int32}  {σ : Nat → Nat → Int32} {P : Int32 → (Nat → Nat → Int32) → Prop} (H : (inB (x3 + 1) scr.1 = true) ∧ (CiA scr 8 mX11_ask [.ref 136, .int (tbV scr 4 (Int32.toNatClampNeg (x3 + 1)))] σ (fun r9 σ' => K_L_law_788 scr x3 y0 r9 σ' P))) : K_L_law_779 scr x3 y0 σ P := by
  show XA scr 11 mL 172 4705 779 [some (.retAddr 4), some (.ref 0), some (.ref 136), some (.int x3)] [.int y0] (hs σ) (pI P)
  obtain ⟨o1, H⟩ := H
  refine XA.blk (e9 := 785) (ok := inB (x3 + 1) scr.1 && (true)) (ls' := [some (.retAddr 4), some (.ref 0), some (.ref 136), some (.int x3)]) (st' := [.int (tbV scr 4 (Int32.toNatClampNeg (x3 + 1))), .ref 136, .int y0]) (h' := hs σ) [(.aload_n 2, 1, 2, 0, 0, 0, 0, 0), (.aload_n 0, 1, 0, 0, 0, 0, 0, 0), (.iload_n 3, 1, 3, 0, 0, 0, 0, 0), (.iconst 1, 1, 0, 0, 0, 0, 1, 0), (.iadd, 1, 0, 0, 0, 0, 0, 0), (.iaload, 1, 0, 0, 0, 0, 0, 0)] (by decide +kernel) rfl (by simp only [o1, Bool.and_true, Bool.true_and]) ?_
  refine XA.callV (as := [.int (tbV scr 4 (Int32.toNatClampNeg (x3 + 1)))]) (rest := [.int y0]) (mc' := 0) (ms' := 0) (idx := 116) (t := 1330) cv_X11_ask (by decide +kernel) rfl rfl rfl (Nat.le_of_ble_eq_true rfl) (Nat.le_of_ble_eq_true rfl) (Nat.le_of_ble_eq_true rfl) (Nat.le_of_ble_eq_true rfl) (H) (fun rv h' hp => ?_)
  obtain ⟨r9, s9, rfl, rfl, hK⟩ := hp
  exact ⟨rfl, rfl, hK⟩
set_option maxRecDepth 20000 in
theorem W_L_law_788 {scr : ScA}   {x3 : Int32} {y0 : Int32} {y1 : Int32}  {σ : Nat → Nat → Int32} {P : Int32 → (Nat → Nat → Int32) → Prop} (H : (y0 = y1 → K_L_law_18 scr (x3 + 6) σ P) ∧ (¬ y0 = y1 → P 0 σ)) : K_L_law_788 scr x3 y0 y1 σ P := by
  show XA scr 11 mL 172 4705 788 [some (.retAddr 4), some (.ref 0), some (.ref 136), some (.int x3)] [.int y1, .int y0] (hs σ) (pI P)
  refine XA.icmp_eq (387) 1175 (by decide +kernel) (fun c1 => ?_) (fun c1 => ?_)
  · have H := H.1 c1
    refine XA.blk (e9 := 18) (ok := true) (ls' := [some (.retAddr 4), some (.ref 0), some (.ref 136), some (.int (x3 + 6))]) (st' := []) (h' := hs σ) [(.iinc 3 6, 3, 3, 0, 0, 0, 6, 0), (.goto (-1160), 3, 18, 0, 0, 0, 0, 0)] (by decide +kernel) rfl rfl ?_
    exact H
  · have H := H.2 c1
    refine XA.blk (e9 := 792) (ok := true) (ls' := [some (.retAddr 4), some (.ref 0), some (.ref 136), some (.int x3)]) (st' := [.int 0]) (h' := hs σ) [(.iconst 0, 1, 0, 0, 0, 0, 0, 0)] (by decide +kernel) rfl rfl ?_
    exact XA.ret (some (.int 0)) rfl (show ckRt mL 792 .ireturn = true by decide +kernel) (Or.inl rfl) (Nat.le_of_ble_eq_true rfl) (Nat.le_of_ble_eq_true rfl) ⟨_, _, rfl, rfl, H⟩
set_option maxRecDepth 20000 in
theorem W_L_law_812 {scr : ScA}   {x3 : Int32} {y0 : Int64}  {σ : Nat → Nat → Int32} {P : Int32 → (Nat → Nat → Int32) → Prop} (H : (inB (x3 + 1) scr.1 = true) ∧ (inB (x3 + 2) scr.1 = true) ∧ (inB (x3 + 3) scr.1 = true) ∧ (ClA scr 7 mX11_chance [.ref 136, .int (tbV scr 4 (Int32.toNatClampNeg (x3 + 1))), .int (tbV scr 4 (Int32.toNatClampNeg (x3 + 2))), .int (tbV scr 4 (Int32.toNatClampNeg (x3 + 3)))] σ (fun r9 σ' => K_L_law_831 scr x3 y0 r9 σ' P))) : K_L_law_812 scr x3 y0 σ P := by
  show XA scr 11 mL 172 4705 812 [some (.retAddr 4), some (.ref 0), some (.ref 136), some (.int x3)] [.long y0] (hs σ) (pI P)
  obtain ⟨o1, o2, o3, H⟩ := H
  refine XA.blk (e9 := 828) (ok := inB (x3 + 1) scr.1 && (inB (x3 + 2) scr.1 && (inB (x3 + 3) scr.1 && (true)))) (ls' := [some (.retAddr 4), some (.ref 0), some (.ref 136), some (.int x3)]) (st' := [.int (tbV scr 4 (Int32.toNatClampNeg (x3 + 3))), .int (tbV scr 4 (Int32.toNatClampNeg (x3 + 2))), .int (tbV scr 4 (Int32.toNatClampNeg (x3 + 1))), .ref 136, .long y0]) (h' := hs σ) [(.aload_n 2, 1, 2, 0, 0, 0, 0, 0), (.aload_n 0, 1, 0, 0, 0, 0, 0, 0), (.iload_n 3, 1, 3, 0, 0, 0, 0, 0), (.iconst 1, 1, 0, 0, 0, 0, 1, 0), (.iadd, 1, 0, 0, 0, 0, 0, 0), (.iaload, 1, 0, 0, 0, 0, 0, 0), (.aload_n 0, 1, 0, 0, 0, 0, 0, 0), (.iload_n 3, 1, 3, 0, 0, 0, 0, 0), (.iconst 2, 1, 0, 0, 0, 0, 2, 0), (.iadd, 1, 0, 0, 0, 0, 0, 0), (.iaload, 1, 0, 0, 0, 0, 0, 0), (.aload_n 0, 1, 0, 0, 0, 0, 0, 0), (.iload_n 3, 1, 3, 0, 0, 0, 0, 0), (.iconst 3, 1, 0, 0, 0, 0, 3, 0), (.iadd, 1, 0, 0, 0, 0, 0, 0), (.iaload, 1, 0, 0, 0, 0, 0, 0)] (by decide +kernel) rfl (by simp only [o1, o2, o3, Bool.and_true, Bool.true_and]) ?_
  refine XA.callV (as := [.int (tbV scr 4 (Int32.toNatClampNeg (x3 + 1))), .int (tbV scr 4 (Int32.toNatClampNeg (x3 + 2))), .int (tbV scr 4 (Int32.toNatClampNeg (x3 + 3)))]) (rest := [.long y0]) (mc' := 0) (ms' := 0) (idx := 121) (t := 1338) cv_X11_chance (by decide +kernel) rfl rfl rfl (Nat.le_of_ble_eq_true rfl) (Nat.le_of_ble_eq_true rfl) (Nat.le_of_ble_eq_true rfl) (Nat.le_of_ble_eq_true rfl) (H) (fun rv h' hp => ?_)
  obtain ⟨r9, s9, rfl, rfl, hK⟩ := hp
  exact ⟨rfl, rfl, hK⟩
set_option maxRecDepth 20000 in
theorem W_L_law_831 {scr : ScA}   {x3 : Int32} {y0 : Int64} {y1 : Int64}  {σ : Nat → Nat → Int32} {P : Int32 → (Nat → Nat → Int32) → Prop} (H : ((lg_cmp y0 y1) = 0 → K_L_law_18 scr (x3 + 6) σ P) ∧ (¬ (lg_cmp y0 y1) = 0 → P 0 σ)) : K_L_law_831 scr x3 y0 y1 σ P := by
  show XA scr 11 mL 172 4705 831 [some (.retAddr 4), some (.ref 0), some (.ref 136), some (.int x3)] [.long y1, .long y0] (hs σ) (pI P)
  refine XA.blk (e9 := 832) (ok := true) (ls' := [some (.retAddr 4), some (.ref 0), some (.ref 136), some (.int x3)]) (st' := [.int (lg_cmp y0 y1)]) (h' := hs σ) [(.lcmp, 1, 0, 0, 0, 0, 0, 0)] (by decide +kernel) rfl rfl ?_
  refine XA.if_eq (343) 1175 (by decide +kernel) (fun c1 => ?_) (fun c1 => ?_)
  · have H := H.1 c1
    refine XA.blk (e9 := 18) (ok := true) (ls' := [some (.retAddr 4), some (.ref 0), some (.ref 136), some (.int (x3 + 6))]) (st' := []) (h' := hs σ) [(.iinc 3 6, 3, 3, 0, 0, 0, 6, 0), (.goto (-1160), 3, 18, 0, 0, 0, 0, 0)] (by decide +kernel) rfl rfl ?_
    exact H
  · have H := H.2 c1
    refine XA.blk (e9 := 836) (ok := true) (ls' := [some (.retAddr 4), some (.ref 0), some (.ref 136), some (.int x3)]) (st' := [.int 0]) (h' := hs σ) [(.iconst 0, 1, 0, 0, 0, 0, 0, 0)] (by decide +kernel) rfl rfl ?_
    exact XA.ret (some (.int 0)) rfl (show ckRt mL 836 .ireturn = true by decide +kernel) (Or.inl rfl) (Nat.le_of_ble_eq_true rfl) (Nat.le_of_ble_eq_true rfl) ⟨_, _, rfl, rfl, H⟩
set_option maxRecDepth 20000 in
theorem W_L_law_856 {scr : ScA}   {x3 : Int32} {y0 : Int32}  {σ : Nat → Nat → Int32} {P : Int32 → (Nat → Nat → Int32) → Prop} (H : (inB (x3 + 1) scr.1 = true) ∧ (inB (x3 + 2) scr.1 = true) ∧ (inB (x3 + 3) scr.1 = true) ∧ (CiA scr 7 mX11_years [.ref 136, .int (tbV scr 4 (Int32.toNatClampNeg (x3 + 1))), .int (tbV scr 4 (Int32.toNatClampNeg (x3 + 2))), .int (tbV scr 4 (Int32.toNatClampNeg (x3 + 3)))] σ (fun r9 σ' => K_L_law_875 scr x3 y0 r9 σ' P))) : K_L_law_856 scr x3 y0 σ P := by
  show XA scr 11 mL 172 4705 856 [some (.retAddr 4), some (.ref 0), some (.ref 136), some (.int x3)] [.int y0] (hs σ) (pI P)
  obtain ⟨o1, o2, o3, H⟩ := H
  refine XA.blk (e9 := 872) (ok := inB (x3 + 1) scr.1 && (inB (x3 + 2) scr.1 && (inB (x3 + 3) scr.1 && (true)))) (ls' := [some (.retAddr 4), some (.ref 0), some (.ref 136), some (.int x3)]) (st' := [.int (tbV scr 4 (Int32.toNatClampNeg (x3 + 3))), .int (tbV scr 4 (Int32.toNatClampNeg (x3 + 2))), .int (tbV scr 4 (Int32.toNatClampNeg (x3 + 1))), .ref 136, .int y0]) (h' := hs σ) [(.aload_n 2, 1, 2, 0, 0, 0, 0, 0), (.aload_n 0, 1, 0, 0, 0, 0, 0, 0), (.iload_n 3, 1, 3, 0, 0, 0, 0, 0), (.iconst 1, 1, 0, 0, 0, 0, 1, 0), (.iadd, 1, 0, 0, 0, 0, 0, 0), (.iaload, 1, 0, 0, 0, 0, 0, 0), (.aload_n 0, 1, 0, 0, 0, 0, 0, 0), (.iload_n 3, 1, 3, 0, 0, 0, 0, 0), (.iconst 2, 1, 0, 0, 0, 0, 2, 0), (.iadd, 1, 0, 0, 0, 0, 0, 0), (.iaload, 1, 0, 0, 0, 0, 0, 0), (.aload_n 0, 1, 0, 0, 0, 0, 0, 0), (.iload_n 3, 1, 3, 0, 0, 0, 0, 0), (.iconst 3, 1, 0, 0, 0, 0, 3, 0), (.iadd, 1, 0, 0, 0, 0, 0, 0), (.iaload, 1, 0, 0, 0, 0, 0, 0)] (by decide +kernel) rfl (by simp only [o1, o2, o3, Bool.and_true, Bool.true_and]) ?_
  refine XA.callV (as := [.int (tbV scr 4 (Int32.toNatClampNeg (x3 + 1))), .int (tbV scr 4 (Int32.toNatClampNeg (x3 + 2))), .int (tbV scr 4 (Int32.toNatClampNeg (x3 + 3)))]) (rest := [.int y0]) (mc' := 0) (ms' := 0) (idx := 125) (t := 1353) cv_X11_years (by decide +kernel) rfl rfl rfl (Nat.le_of_ble_eq_true rfl) (Nat.le_of_ble_eq_true rfl) (Nat.le_of_ble_eq_true rfl) (Nat.le_of_ble_eq_true rfl) (H) (fun rv h' hp => ?_)
  obtain ⟨r9, s9, rfl, rfl, hK⟩ := hp
  exact ⟨rfl, rfl, hK⟩
set_option maxRecDepth 20000 in
theorem W_L_law_875 {scr : ScA}   {x3 : Int32} {y0 : Int32} {y1 : Int32}  {σ : Nat → Nat → Int32} {P : Int32 → (Nat → Nat → Int32) → Prop} (H : (y0 = y1 → K_L_law_18 scr (x3 + 6) σ P) ∧ (¬ y0 = y1 → P 0 σ)) : K_L_law_875 scr x3 y0 y1 σ P := by
  show XA scr 11 mL 172 4705 875 [some (.retAddr 4), some (.ref 0), some (.ref 136), some (.int x3)] [.int y1, .int y0] (hs σ) (pI P)
  refine XA.icmp_eq (300) 1175 (by decide +kernel) (fun c1 => ?_) (fun c1 => ?_)
  · have H := H.1 c1
    refine XA.blk (e9 := 18) (ok := true) (ls' := [some (.retAddr 4), some (.ref 0), some (.ref 136), some (.int (x3 + 6))]) (st' := []) (h' := hs σ) [(.iinc 3 6, 3, 3, 0, 0, 0, 6, 0), (.goto (-1160), 3, 18, 0, 0, 0, 0, 0)] (by decide +kernel) rfl rfl ?_
    exact H
  · have H := H.2 c1
    refine XA.blk (e9 := 879) (ok := true) (ls' := [some (.retAddr 4), some (.ref 0), some (.ref 136), some (.int x3)]) (st' := [.int 0]) (h' := hs σ) [(.iconst 0, 1, 0, 0, 0, 0, 0, 0)] (by decide +kernel) rfl rfl ?_
    exact XA.ret (some (.int 0)) rfl (show ckRt mL 879 .ireturn = true by decide +kernel) (Or.inl rfl) (Nat.le_of_ble_eq_true rfl) (Nat.le_of_ble_eq_true rfl) ⟨_, _, rfl, rfl, H⟩
set_option maxRecDepth 20000 in
theorem W_L_law_899 {scr : ScA}   {x3 : Int32} {y0 : Int32}  {σ : Nat → Nat → Int32} {P : Int32 → (Nat → Nat → Int32) → Prop} (H : (inB (x3 + 1) scr.1 = true) ∧ (inB (x3 + 2) scr.1 = true) ∧ (inB (x3 + 3) scr.1 = true) ∧ (CiA scr 2 mX11_sheet [.ref 136, .int (tbV scr 4 (Int32.toNatClampNeg (x3 + 1))), .int (tbV scr 4 (Int32.toNatClampNeg (x3 + 2))), .int (tbV scr 4 (Int32.toNatClampNeg (x3 + 3)))] σ (fun r9 σ' => K_L_law_918 scr x3 y0 r9 σ' P))) : K_L_law_899 scr x3 y0 σ P := by
  show XA scr 11 mL 172 4705 899 [some (.retAddr 4), some (.ref 0), some (.ref 136), some (.int x3)] [.int y0] (hs σ) (pI P)
  obtain ⟨o1, o2, o3, H⟩ := H
  refine XA.blk (e9 := 915) (ok := inB (x3 + 1) scr.1 && (inB (x3 + 2) scr.1 && (inB (x3 + 3) scr.1 && (true)))) (ls' := [some (.retAddr 4), some (.ref 0), some (.ref 136), some (.int x3)]) (st' := [.int (tbV scr 4 (Int32.toNatClampNeg (x3 + 3))), .int (tbV scr 4 (Int32.toNatClampNeg (x3 + 2))), .int (tbV scr 4 (Int32.toNatClampNeg (x3 + 1))), .ref 136, .int y0]) (h' := hs σ) [(.aload_n 2, 1, 2, 0, 0, 0, 0, 0), (.aload_n 0, 1, 0, 0, 0, 0, 0, 0), (.iload_n 3, 1, 3, 0, 0, 0, 0, 0), (.iconst 1, 1, 0, 0, 0, 0, 1, 0), (.iadd, 1, 0, 0, 0, 0, 0, 0), (.iaload, 1, 0, 0, 0, 0, 0, 0), (.aload_n 0, 1, 0, 0, 0, 0, 0, 0), (.iload_n 3, 1, 3, 0, 0, 0, 0, 0), (.iconst 2, 1, 0, 0, 0, 0, 2, 0), (.iadd, 1, 0, 0, 0, 0, 0, 0), (.iaload, 1, 0, 0, 0, 0, 0, 0), (.aload_n 0, 1, 0, 0, 0, 0, 0, 0), (.iload_n 3, 1, 3, 0, 0, 0, 0, 0), (.iconst 3, 1, 0, 0, 0, 0, 3, 0), (.iadd, 1, 0, 0, 0, 0, 0, 0), (.iaload, 1, 0, 0, 0, 0, 0, 0)] (by decide +kernel) rfl (by simp only [o1, o2, o3, Bool.and_true, Bool.true_and]) ?_
  refine XA.callV (as := [.int (tbV scr 4 (Int32.toNatClampNeg (x3 + 1))), .int (tbV scr 4 (Int32.toNatClampNeg (x3 + 2))), .int (tbV scr 4 (Int32.toNatClampNeg (x3 + 3)))]) (rest := [.int y0]) (mc' := 0) (ms' := 0) (idx := 129) (t := 1362) cv_X11_sheet (by decide +kernel) rfl rfl rfl (Nat.le_of_ble_eq_true rfl) (Nat.le_of_ble_eq_true rfl) (Nat.le_of_ble_eq_true rfl) (Nat.le_of_ble_eq_true rfl) (H) (fun rv h' hp => ?_)
  obtain ⟨r9, s9, rfl, rfl, hK⟩ := hp
  exact ⟨rfl, rfl, hK⟩
set_option maxRecDepth 20000 in
theorem W_L_law_918 {scr : ScA}   {x3 : Int32} {y0 : Int32} {y1 : Int32}  {σ : Nat → Nat → Int32} {P : Int32 → (Nat → Nat → Int32) → Prop} (H : (y0 = y1 → K_L_law_18 scr (x3 + 6) σ P) ∧ (¬ y0 = y1 → P 0 σ)) : K_L_law_918 scr x3 y0 y1 σ P := by
  show XA scr 11 mL 172 4705 918 [some (.retAddr 4), some (.ref 0), some (.ref 136), some (.int x3)] [.int y1, .int y0] (hs σ) (pI P)
  refine XA.icmp_eq (257) 1175 (by decide +kernel) (fun c1 => ?_) (fun c1 => ?_)
  · have H := H.1 c1
    refine XA.blk (e9 := 18) (ok := true) (ls' := [some (.retAddr 4), some (.ref 0), some (.ref 136), some (.int (x3 + 6))]) (st' := []) (h' := hs σ) [(.iinc 3 6, 3, 3, 0, 0, 0, 6, 0), (.goto (-1160), 3, 18, 0, 0, 0, 0, 0)] (by decide +kernel) rfl rfl ?_
    exact H
  · have H := H.2 c1
    refine XA.blk (e9 := 922) (ok := true) (ls' := [some (.retAddr 4), some (.ref 0), some (.ref 136), some (.int x3)]) (st' := [.int 0]) (h' := hs σ) [(.iconst 0, 1, 0, 0, 0, 0, 0, 0)] (by decide +kernel) rfl rfl ?_
    exact XA.ret (some (.int 0)) rfl (show ckRt mL 922 .ireturn = true by decide +kernel) (Or.inl rfl) (Nat.le_of_ble_eq_true rfl) (Nat.le_of_ble_eq_true rfl) ⟨_, _, rfl, rfl, H⟩
set_option maxRecDepth 20000 in
theorem W_L_law_932 {scr : ScA}   {x3 : Int32} {y0 : Int32}  {σ : Nat → Nat → Int32} {P : Int32 → (Nat → Nat → Int32) → Prop} (H : (inB (x3 + 1) scr.1 = true) ∧ (CiA scr 2 mX11_lose [.ref 136, .int (tbV scr 4 (Int32.toNatClampNeg (x3 + 1)))] σ (fun r9 σ' => K_L_law_941 scr x3 y0 r9 σ' P))) : K_L_law_932 scr x3 y0 σ P := by
  show XA scr 11 mL 172 4705 932 [some (.retAddr 4), some (.ref 0), some (.ref 136), some (.int x3)] [.int y0] (hs σ) (pI P)
  obtain ⟨o1, H⟩ := H
  refine XA.blk (e9 := 938) (ok := inB (x3 + 1) scr.1 && (true)) (ls' := [some (.retAddr 4), some (.ref 0), some (.ref 136), some (.int x3)]) (st' := [.int (tbV scr 4 (Int32.toNatClampNeg (x3 + 1))), .ref 136, .int y0]) (h' := hs σ) [(.aload_n 2, 1, 2, 0, 0, 0, 0, 0), (.aload_n 0, 1, 0, 0, 0, 0, 0, 0), (.iload_n 3, 1, 3, 0, 0, 0, 0, 0), (.iconst 1, 1, 0, 0, 0, 0, 1, 0), (.iadd, 1, 0, 0, 0, 0, 0, 0), (.iaload, 1, 0, 0, 0, 0, 0, 0)] (by decide +kernel) rfl (by simp only [o1, Bool.and_true, Bool.true_and]) ?_
  refine XA.callV (as := [.int (tbV scr 4 (Int32.toNatClampNeg (x3 + 1)))]) (rest := [.int y0]) (mc' := 0) (ms' := 0) (idx := 133) (t := 1366) cv_X11_lose (by decide +kernel) rfl rfl rfl (Nat.le_of_ble_eq_true rfl) (Nat.le_of_ble_eq_true rfl) (Nat.le_of_ble_eq_true rfl) (Nat.le_of_ble_eq_true rfl) (H) (fun rv h' hp => ?_)
  obtain ⟨r9, s9, rfl, rfl, hK⟩ := hp
  exact ⟨rfl, rfl, hK⟩
set_option maxRecDepth 20000 in
theorem W_L_law_941 {scr : ScA}   {x3 : Int32} {y0 : Int32} {y1 : Int32}  {σ : Nat → Nat → Int32} {P : Int32 → (Nat → Nat → Int32) → Prop} (H : (y0 = y1 → K_L_law_18 scr (x3 + 6) σ P) ∧ (¬ y0 = y1 → P 0 σ)) : K_L_law_941 scr x3 y0 y1 σ P := by
  show XA scr 11 mL 172 4705 941 [some (.retAddr 4), some (.ref 0), some (.ref 136), some (.int x3)] [.int y1, .int y0] (hs σ) (pI P)
  refine XA.icmp_eq (234) 1175 (by decide +kernel) (fun c1 => ?_) (fun c1 => ?_)
  · have H := H.1 c1
    refine XA.blk (e9 := 18) (ok := true) (ls' := [some (.retAddr 4), some (.ref 0), some (.ref 136), some (.int (x3 + 6))]) (st' := []) (h' := hs σ) [(.iinc 3 6, 3, 3, 0, 0, 0, 6, 0), (.goto (-1160), 3, 18, 0, 0, 0, 0, 0)] (by decide +kernel) rfl rfl ?_
    exact H
  · have H := H.2 c1
    refine XA.blk (e9 := 945) (ok := true) (ls' := [some (.retAddr 4), some (.ref 0), some (.ref 136), some (.int x3)]) (st' := [.int 0]) (h' := hs σ) [(.iconst 0, 1, 0, 0, 0, 0, 0, 0)] (by decide +kernel) rfl rfl ?_
    exact XA.ret (some (.int 0)) rfl (show ckRt mL 945 .ireturn = true by decide +kernel) (Or.inl rfl) (Nat.le_of_ble_eq_true rfl) (Nat.le_of_ble_eq_true rfl) ⟨_, _, rfl, rfl, H⟩
set_option maxRecDepth 20000 in
theorem W_L_law_970 {scr : ScA}   {x3 : Int32} {y0 : Int32}  {σ : Nat → Nat → Int32} {P : Int32 → (Nat → Nat → Int32) → Prop} (H : (inB (x3 + 1) scr.1 = true) ∧ (inB (x3 + 2) scr.1 = true) ∧ (inB (x3 + 3) scr.1 = true) ∧ (inB (x3 + 4) scr.1 = true) ∧ (CiA scr 2 mX11_put [.ref 136, .int (tbV scr 4 (Int32.toNatClampNeg (x3 + 1))), .int (tbV scr 4 (Int32.toNatClampNeg (x3 + 2))), .int (tbV scr 4 (Int32.toNatClampNeg (x3 + 3))), .int (tbV scr 4 (Int32.toNatClampNeg (x3 + 4)))] σ (fun r9 σ' => K_L_law_994 scr x3 y0 r9 σ' P))) : K_L_law_970 scr x3 y0 σ P := by
  show XA scr 11 mL 172 4705 970 [some (.retAddr 4), some (.ref 0), some (.ref 136), some (.int x3)] [.int y0] (hs σ) (pI P)
  obtain ⟨o1, o2, o3, o4, H⟩ := H
  refine XA.blk (e9 := 991) (ok := inB (x3 + 1) scr.1 && (inB (x3 + 2) scr.1 && (inB (x3 + 3) scr.1 && (inB (x3 + 4) scr.1 && (true))))) (ls' := [some (.retAddr 4), some (.ref 0), some (.ref 136), some (.int x3)]) (st' := [.int (tbV scr 4 (Int32.toNatClampNeg (x3 + 4))), .int (tbV scr 4 (Int32.toNatClampNeg (x3 + 3))), .int (tbV scr 4 (Int32.toNatClampNeg (x3 + 2))), .int (tbV scr 4 (Int32.toNatClampNeg (x3 + 1))), .ref 136, .int y0]) (h' := hs σ) [(.aload_n 2, 1, 2, 0, 0, 0, 0, 0), (.aload_n 0, 1, 0, 0, 0, 0, 0, 0), (.iload_n 3, 1, 3, 0, 0, 0, 0, 0), (.iconst 1, 1, 0, 0, 0, 0, 1, 0), (.iadd, 1, 0, 0, 0, 0, 0, 0), (.iaload, 1, 0, 0, 0, 0, 0, 0), (.aload_n 0, 1, 0, 0, 0, 0, 0, 0), (.iload_n 3, 1, 3, 0, 0, 0, 0, 0), (.iconst 2, 1, 0, 0, 0, 0, 2, 0), (.iadd, 1, 0, 0, 0, 0, 0, 0), (.iaload, 1, 0, 0, 0, 0, 0, 0), (.aload_n 0, 1, 0, 0, 0, 0, 0, 0), (.iload_n 3, 1, 3, 0, 0, 0, 0, 0), (.iconst 3, 1, 0, 0, 0, 0, 3, 0), (.iadd, 1, 0, 0, 0, 0, 0, 0), (.iaload, 1, 0, 0, 0, 0, 0, 0), (.aload_n 0, 1, 0, 0, 0, 0, 0, 0), (.iload_n 3, 1, 3, 0, 0, 0, 0, 0), (.iconst 4, 1, 0, 0, 0, 0, 4, 0), (.iadd, 1, 0, 0, 0, 0, 0, 0), (.iaload, 1, 0, 0, 0, 0, 0, 0)] (by decide +kernel) rfl (by simp only [o1, o2, o3, o4, Bool.and_true, Bool.true_and]) ?_
  refine XA.callV (as := [.int (tbV scr 4 (Int32.toNatClampNeg (x3 + 1))), .int (tbV scr 4 (Int32.toNatClampNeg (x3 + 2))), .int (tbV scr 4 (Int32.toNatClampNeg (x3 + 3))), .int (tbV scr 4 (Int32.toNatClampNeg (x3 + 4)))]) (rest := [.int y0]) (mc' := 0) (ms' := 0) (idx := 138) (t := 1370) cv_X11_put (by decide +kernel) rfl rfl rfl (Nat.le_of_ble_eq_true rfl) (Nat.le_of_ble_eq_true rfl) (Nat.le_of_ble_eq_true rfl) (Nat.le_of_ble_eq_true rfl) (H) (fun rv h' hp => ?_)
  obtain ⟨r9, s9, rfl, rfl, hK⟩ := hp
  exact ⟨rfl, rfl, hK⟩
set_option maxRecDepth 20000 in
theorem W_L_law_994 {scr : ScA}   {x3 : Int32} {y0 : Int32} {y1 : Int32}  {σ : Nat → Nat → Int32} {P : Int32 → (Nat → Nat → Int32) → Prop} (H : (y0 = y1 → K_L_law_18 scr (x3 + 6) σ P) ∧ (¬ y0 = y1 → P 0 σ)) : K_L_law_994 scr x3 y0 y1 σ P := by
  show XA scr 11 mL 172 4705 994 [some (.retAddr 4), some (.ref 0), some (.ref 136), some (.int x3)] [.int y1, .int y0] (hs σ) (pI P)
  refine XA.icmp_eq (181) 1175 (by decide +kernel) (fun c1 => ?_) (fun c1 => ?_)
  · have H := H.1 c1
    refine XA.blk (e9 := 18) (ok := true) (ls' := [some (.retAddr 4), some (.ref 0), some (.ref 136), some (.int (x3 + 6))]) (st' := []) (h' := hs σ) [(.iinc 3 6, 3, 3, 0, 0, 0, 6, 0), (.goto (-1160), 3, 18, 0, 0, 0, 0, 0)] (by decide +kernel) rfl rfl ?_
    exact H
  · have H := H.2 c1
    refine XA.blk (e9 := 998) (ok := true) (ls' := [some (.retAddr 4), some (.ref 0), some (.ref 136), some (.int x3)]) (st' := [.int 0]) (h' := hs σ) [(.iconst 0, 1, 0, 0, 0, 0, 0, 0)] (by decide +kernel) rfl rfl ?_
    exact XA.ret (some (.int 0)) rfl (show ckRt mL 998 .ireturn = true by decide +kernel) (Or.inl rfl) (Nat.le_of_ble_eq_true rfl) (Nat.le_of_ble_eq_true rfl) ⟨_, _, rfl, rfl, H⟩
set_option maxRecDepth 20000 in
theorem W_L_law_1018 {scr : ScA}   {x3 : Int32} {y0 : Int32}  {σ : Nat → Nat → Int32} {P : Int32 → (Nat → Nat → Int32) → Prop} (H : (inB (x3 + 1) scr.1 = true) ∧ (inB (x3 + 2) scr.1 = true) ∧ (inB (x3 + 3) scr.1 = true) ∧ (CiA scr 2 mX11_get [.ref 136, .int (tbV scr 4 (Int32.toNatClampNeg (x3 + 1))), .int (tbV scr 4 (Int32.toNatClampNeg (x3 + 2))), .int (tbV scr 4 (Int32.toNatClampNeg (x3 + 3)))] σ (fun r9 σ' => K_L_law_1037 scr x3 y0 r9 σ' P))) : K_L_law_1018 scr x3 y0 σ P := by
  show XA scr 11 mL 172 4705 1018 [some (.retAddr 4), some (.ref 0), some (.ref 136), some (.int x3)] [.int y0] (hs σ) (pI P)
  obtain ⟨o1, o2, o3, H⟩ := H
  refine XA.blk (e9 := 1034) (ok := inB (x3 + 1) scr.1 && (inB (x3 + 2) scr.1 && (inB (x3 + 3) scr.1 && (true)))) (ls' := [some (.retAddr 4), some (.ref 0), some (.ref 136), some (.int x3)]) (st' := [.int (tbV scr 4 (Int32.toNatClampNeg (x3 + 3))), .int (tbV scr 4 (Int32.toNatClampNeg (x3 + 2))), .int (tbV scr 4 (Int32.toNatClampNeg (x3 + 1))), .ref 136, .int y0]) (h' := hs σ) [(.aload_n 2, 1, 2, 0, 0, 0, 0, 0), (.aload_n 0, 1, 0, 0, 0, 0, 0, 0), (.iload_n 3, 1, 3, 0, 0, 0, 0, 0), (.iconst 1, 1, 0, 0, 0, 0, 1, 0), (.iadd, 1, 0, 0, 0, 0, 0, 0), (.iaload, 1, 0, 0, 0, 0, 0, 0), (.aload_n 0, 1, 0, 0, 0, 0, 0, 0), (.iload_n 3, 1, 3, 0, 0, 0, 0, 0), (.iconst 2, 1, 0, 0, 0, 0, 2, 0), (.iadd, 1, 0, 0, 0, 0, 0, 0), (.iaload, 1, 0, 0, 0, 0, 0, 0), (.aload_n 0, 1, 0, 0, 0, 0, 0, 0), (.iload_n 3, 1, 3, 0, 0, 0, 0, 0), (.iconst 3, 1, 0, 0, 0, 0, 3, 0), (.iadd, 1, 0, 0, 0, 0, 0, 0), (.iaload, 1, 0, 0, 0, 0, 0, 0)] (by decide +kernel) rfl (by simp only [o1, o2, o3, Bool.and_true, Bool.true_and]) ?_
  refine XA.callV (as := [.int (tbV scr 4 (Int32.toNatClampNeg (x3 + 1))), .int (tbV scr 4 (Int32.toNatClampNeg (x3 + 2))), .int (tbV scr 4 (Int32.toNatClampNeg (x3 + 3)))]) (rest := [.int y0]) (mc' := 0) (ms' := 0) (idx := 142) (t := 1382) cv_X11_get (by decide +kernel) rfl rfl rfl (Nat.le_of_ble_eq_true rfl) (Nat.le_of_ble_eq_true rfl) (Nat.le_of_ble_eq_true rfl) (Nat.le_of_ble_eq_true rfl) (H) (fun rv h' hp => ?_)
  obtain ⟨r9, s9, rfl, rfl, hK⟩ := hp
  exact ⟨rfl, rfl, hK⟩
set_option maxRecDepth 20000 in
theorem W_L_law_1037 {scr : ScA}   {x3 : Int32} {y0 : Int32} {y1 : Int32}  {σ : Nat → Nat → Int32} {P : Int32 → (Nat → Nat → Int32) → Prop} (H : (y0 = y1 → K_L_law_18 scr (x3 + 6) σ P) ∧ (¬ y0 = y1 → P 0 σ)) : K_L_law_1037 scr x3 y0 y1 σ P := by
  show XA scr 11 mL 172 4705 1037 [some (.retAddr 4), some (.ref 0), some (.ref 136), some (.int x3)] [.int y1, .int y0] (hs σ) (pI P)
  refine XA.icmp_eq (138) 1175 (by decide +kernel) (fun c1 => ?_) (fun c1 => ?_)
  · have H := H.1 c1
    refine XA.blk (e9 := 18) (ok := true) (ls' := [some (.retAddr 4), some (.ref 0), some (.ref 136), some (.int (x3 + 6))]) (st' := []) (h' := hs σ) [(.iinc 3 6, 3, 3, 0, 0, 0, 6, 0), (.goto (-1160), 3, 18, 0, 0, 0, 0, 0)] (by decide +kernel) rfl rfl ?_
    exact H
  · have H := H.2 c1
    refine XA.blk (e9 := 1041) (ok := true) (ls' := [some (.retAddr 4), some (.ref 0), some (.ref 136), some (.int x3)]) (st' := [.int 0]) (h' := hs σ) [(.iconst 0, 1, 0, 0, 0, 0, 0, 0)] (by decide +kernel) rfl rfl ?_
    exact XA.ret (some (.int 0)) rfl (show ckRt mL 1041 .ireturn = true by decide +kernel) (Or.inl rfl) (Nat.le_of_ble_eq_true rfl) (Nat.le_of_ble_eq_true rfl) ⟨_, _, rfl, rfl, H⟩
set_option maxRecDepth 20000 in
theorem W_L_law_1071 {scr : ScA}   {x3 : Int32} {y0 : Int32}  {σ : Nat → Nat → Int32} {P : Int32 → (Nat → Nat → Int32) → Prop} (H : (inB (x3 + 1) scr.1 = true) ∧ (inB (x3 + 2) scr.1 = true) ∧ (inB (x3 + 3) scr.1 = true) ∧ (inB (x3 + 4) scr.1 = true) ∧ (inB (x3 + 5) scr.1 = true) ∧ (CiA scr 2 mX11_copy [.ref 136, .int (tbV scr 4 (Int32.toNatClampNeg (x3 + 1))), .int (tbV scr 4 (Int32.toNatClampNeg (x3 + 2))), .int (tbV scr 4 (Int32.toNatClampNeg (x3 + 3))), .int (tbV scr 4 (Int32.toNatClampNeg (x3 + 4))), .int (tbV scr 4 (Int32.toNatClampNeg (x3 + 5)))] σ (fun r9 σ' => K_L_law_1100 scr x3 y0 r9 σ' P))) : K_L_law_1071 scr x3 y0 σ P := by
  show XA scr 11 mL 172 4705 1071 [some (.retAddr 4), some (.ref 0), some (.ref 136), some (.int x3)] [.int y0] (hs σ) (pI P)
  obtain ⟨o1, o2, o3, o4, o5, H⟩ := H
  refine XA.blk (e9 := 1097) (ok := inB (x3 + 1) scr.1 && (inB (x3 + 2) scr.1 && (inB (x3 + 3) scr.1 && (inB (x3 + 4) scr.1 && (inB (x3 + 5) scr.1 && (true)))))) (ls' := [some (.retAddr 4), some (.ref 0), some (.ref 136), some (.int x3)]) (st' := [.int (tbV scr 4 (Int32.toNatClampNeg (x3 + 5))), .int (tbV scr 4 (Int32.toNatClampNeg (x3 + 4))), .int (tbV scr 4 (Int32.toNatClampNeg (x3 + 3))), .int (tbV scr 4 (Int32.toNatClampNeg (x3 + 2))), .int (tbV scr 4 (Int32.toNatClampNeg (x3 + 1))), .ref 136, .int y0]) (h' := hs σ) [(.aload_n 2, 1, 2, 0, 0, 0, 0, 0), (.aload_n 0, 1, 0, 0, 0, 0, 0, 0), (.iload_n 3, 1, 3, 0, 0, 0, 0, 0), (.iconst 1, 1, 0, 0, 0, 0, 1, 0), (.iadd, 1, 0, 0, 0, 0, 0, 0), (.iaload, 1, 0, 0, 0, 0, 0, 0), (.aload_n 0, 1, 0, 0, 0, 0, 0, 0), (.iload_n 3, 1, 3, 0, 0, 0, 0, 0), (.iconst 2, 1, 0, 0, 0, 0, 2, 0), (.iadd, 1, 0, 0, 0, 0, 0, 0), (.iaload, 1, 0, 0, 0, 0, 0, 0), (.aload_n 0, 1, 0, 0, 0, 0, 0, 0), (.iload_n 3, 1, 3, 0, 0, 0, 0, 0), (.iconst 3, 1, 0, 0, 0, 0, 3, 0), (.iadd, 1, 0, 0, 0, 0, 0, 0), (.iaload, 1, 0, 0, 0, 0, 0, 0), (.aload_n 0, 1, 0, 0, 0, 0, 0, 0), (.iload_n 3, 1, 3, 0, 0, 0, 0, 0), (.iconst 4, 1, 0, 0, 0, 0, 4, 0), (.iadd, 1, 0, 0, 0, 0, 0, 0), (.iaload, 1, 0, 0, 0, 0, 0, 0), (.aload_n 0, 1, 0, 0, 0, 0, 0, 0), (.iload_n 3, 1, 3, 0, 0, 0, 0, 0), (.iconst 5, 1, 0, 0, 0, 0, 5, 0), (.iadd, 1, 0, 0, 0, 0, 0, 0), (.iaload, 1, 0, 0, 0, 0, 0, 0)] (by decide +kernel) rfl (by simp only [o1, o2, o3, o4, o5, Bool.and_true, Bool.true_and]) ?_
  refine XA.callV (as := [.int (tbV scr 4 (Int32.toNatClampNeg (x3 + 1))), .int (tbV scr 4 (Int32.toNatClampNeg (x3 + 2))), .int (tbV scr 4 (Int32.toNatClampNeg (x3 + 3))), .int (tbV scr 4 (Int32.toNatClampNeg (x3 + 4))), .int (tbV scr 4 (Int32.toNatClampNeg (x3 + 5)))]) (rest := [.int y0]) (mc' := 0) (ms' := 0) (idx := 147) (t := 1387) cv_X11_copy (by decide +kernel) rfl rfl rfl (Nat.le_of_ble_eq_true rfl) (Nat.le_of_ble_eq_true rfl) (Nat.le_of_ble_eq_true rfl) (Nat.le_of_ble_eq_true rfl) (H) (fun rv h' hp => ?_)
  obtain ⟨r9, s9, rfl, rfl, hK⟩ := hp
  exact ⟨rfl, rfl, hK⟩
set_option maxRecDepth 20000 in
theorem W_L_law_1100 {scr : ScA}   {x3 : Int32} {y0 : Int32} {y1 : Int32}  {σ : Nat → Nat → Int32} {P : Int32 → (Nat → Nat → Int32) → Prop} (H : (y0 = y1 → K_L_law_18 scr (x3 + 6) σ P) ∧ (¬ y0 = y1 → P 0 σ)) : K_L_law_1100 scr x3 y0 y1 σ P := by
  show XA scr 11 mL 172 4705 1100 [some (.retAddr 4), some (.ref 0), some (.ref 136), some (.int x3)] [.int y1, .int y0] (hs σ) (pI P)
  refine XA.icmp_eq (75) 1175 (by decide +kernel) (fun c1 => ?_) (fun c1 => ?_)
  · have H := H.1 c1
    refine XA.blk (e9 := 18) (ok := true) (ls' := [some (.retAddr 4), some (.ref 0), some (.ref 136), some (.int (x3 + 6))]) (st' := []) (h' := hs σ) [(.iinc 3 6, 3, 3, 0, 0, 0, 6, 0), (.goto (-1160), 3, 18, 0, 0, 0, 0, 0)] (by decide +kernel) rfl rfl ?_
    exact H
  · have H := H.2 c1
    refine XA.blk (e9 := 1104) (ok := true) (ls' := [some (.retAddr 4), some (.ref 0), some (.ref 136), some (.int x3)]) (st' := [.int 0]) (h' := hs σ) [(.iconst 0, 1, 0, 0, 0, 0, 0, 0)] (by decide +kernel) rfl rfl ?_
    exact XA.ret (some (.int 0)) rfl (show ckRt mL 1104 .ireturn = true by decide +kernel) (Or.inl rfl) (Nat.le_of_ble_eq_true rfl) (Nat.le_of_ble_eq_true rfl) ⟨_, _, rfl, rfl, H⟩
set_option maxRecDepth 20000 in
theorem W_L_law_1119 {scr : ScA}   {x3 : Int32} {y0 : Int32}  {σ : Nat → Nat → Int32} {P : Int32 → (Nat → Nat → Int32) → Prop} (H : (inB (x3 + 1) scr.1 = true) ∧ (inB (x3 + 2) scr.1 = true) ∧ (CiA scr 7 mX11_write [.ref 136, .int (tbV scr 4 (Int32.toNatClampNeg (x3 + 1))), .int (tbV scr 4 (Int32.toNatClampNeg (x3 + 2)))] σ (fun r9 σ' => K_L_law_1133 scr x3 y0 r9 σ' P))) : K_L_law_1119 scr x3 y0 σ P := by
  show XA scr 11 mL 172 4705 1119 [some (.retAddr 4), some (.ref 0), some (.ref 136), some (.int x3)] [.int y0] (hs σ) (pI P)
  obtain ⟨o1, o2, H⟩ := H
  refine XA.blk (e9 := 1130) (ok := inB (x3 + 1) scr.1 && (inB (x3 + 2) scr.1 && (true))) (ls' := [some (.retAddr 4), some (.ref 0), some (.ref 136), some (.int x3)]) (st' := [.int (tbV scr 4 (Int32.toNatClampNeg (x3 + 2))), .int (tbV scr 4 (Int32.toNatClampNeg (x3 + 1))), .ref 136, .int y0]) (h' := hs σ) [(.aload_n 2, 1, 2, 0, 0, 0, 0, 0), (.aload_n 0, 1, 0, 0, 0, 0, 0, 0), (.iload_n 3, 1, 3, 0, 0, 0, 0, 0), (.iconst 1, 1, 0, 0, 0, 0, 1, 0), (.iadd, 1, 0, 0, 0, 0, 0, 0), (.iaload, 1, 0, 0, 0, 0, 0, 0), (.aload_n 0, 1, 0, 0, 0, 0, 0, 0), (.iload_n 3, 1, 3, 0, 0, 0, 0, 0), (.iconst 2, 1, 0, 0, 0, 0, 2, 0), (.iadd, 1, 0, 0, 0, 0, 0, 0), (.iaload, 1, 0, 0, 0, 0, 0, 0)] (by decide +kernel) rfl (by simp only [o1, o2, Bool.and_true, Bool.true_and]) ?_
  refine XA.callV (as := [.int (tbV scr 4 (Int32.toNatClampNeg (x3 + 1))), .int (tbV scr 4 (Int32.toNatClampNeg (x3 + 2)))]) (rest := [.int y0]) (mc' := 0) (ms' := 0) (idx := 151) (t := 1391) cv_X11_write (by decide +kernel) rfl rfl rfl (Nat.le_of_ble_eq_true rfl) (Nat.le_of_ble_eq_true rfl) (Nat.le_of_ble_eq_true rfl) (Nat.le_of_ble_eq_true rfl) (H) (fun rv h' hp => ?_)
  obtain ⟨r9, s9, rfl, rfl, hK⟩ := hp
  exact ⟨rfl, rfl, hK⟩
set_option maxRecDepth 20000 in
theorem W_L_law_1133 {scr : ScA}   {x3 : Int32} {y0 : Int32} {y1 : Int32}  {σ : Nat → Nat → Int32} {P : Int32 → (Nat → Nat → Int32) → Prop} (H : (y0 = y1 → K_L_law_18 scr (x3 + 6) σ P) ∧ (¬ y0 = y1 → P 0 σ)) : K_L_law_1133 scr x3 y0 y1 σ P := by
  show XA scr 11 mL 172 4705 1133 [some (.retAddr 4), some (.ref 0), some (.ref 136), some (.int x3)] [.int y1, .int y0] (hs σ) (pI P)
  refine XA.icmp_eq (42) 1175 (by decide +kernel) (fun c1 => ?_) (fun c1 => ?_)
  · have H := H.1 c1
    refine XA.blk (e9 := 18) (ok := true) (ls' := [some (.retAddr 4), some (.ref 0), some (.ref 136), some (.int (x3 + 6))]) (st' := []) (h' := hs σ) [(.iinc 3 6, 3, 3, 0, 0, 0, 6, 0), (.goto (-1160), 3, 18, 0, 0, 0, 0, 0)] (by decide +kernel) rfl rfl ?_
    exact H
  · have H := H.2 c1
    refine XA.blk (e9 := 1137) (ok := true) (ls' := [some (.retAddr 4), some (.ref 0), some (.ref 136), some (.int x3)]) (st' := [.int 0]) (h' := hs σ) [(.iconst 0, 1, 0, 0, 0, 0, 0, 0)] (by decide +kernel) rfl rfl ?_
    exact XA.ret (some (.int 0)) rfl (show ckRt mL 1137 .ireturn = true by decide +kernel) (Or.inl rfl) (Nat.le_of_ble_eq_true rfl) (Nat.le_of_ble_eq_true rfl) ⟨_, _, rfl, rfl, H⟩
set_option maxRecDepth 20000 in
theorem W_L_law_1147 {scr : ScA}   {x3 : Int32} {y0 : Int32}  {σ : Nat → Nat → Int32} {P : Int32 → (Nat → Nat → Int32) → Prop} (H : (inB (x3 + 1) scr.1 = true) ∧ (CiA scr 8 mX11_count [.ref 136, .int (tbV scr 4 (Int32.toNatClampNeg (x3 + 1)))] σ (fun r9 σ' => K_L_law_1156 scr x3 y0 r9 σ' P))) : K_L_law_1147 scr x3 y0 σ P := by
  show XA scr 11 mL 172 4705 1147 [some (.retAddr 4), some (.ref 0), some (.ref 136), some (.int x3)] [.int y0] (hs σ) (pI P)
  obtain ⟨o1, H⟩ := H
  refine XA.blk (e9 := 1153) (ok := inB (x3 + 1) scr.1 && (true)) (ls' := [some (.retAddr 4), some (.ref 0), some (.ref 136), some (.int x3)]) (st' := [.int (tbV scr 4 (Int32.toNatClampNeg (x3 + 1))), .ref 136, .int y0]) (h' := hs σ) [(.aload_n 2, 1, 2, 0, 0, 0, 0, 0), (.aload_n 0, 1, 0, 0, 0, 0, 0, 0), (.iload_n 3, 1, 3, 0, 0, 0, 0, 0), (.iconst 1, 1, 0, 0, 0, 0, 1, 0), (.iadd, 1, 0, 0, 0, 0, 0, 0), (.iaload, 1, 0, 0, 0, 0, 0, 0)] (by decide +kernel) rfl (by simp only [o1, Bool.and_true, Bool.true_and]) ?_
  refine XA.callV (as := [.int (tbV scr 4 (Int32.toNatClampNeg (x3 + 1)))]) (rest := [.int y0]) (mc' := 0) (ms' := 0) (idx := 155) (t := 1395) cv_X11_count (by decide +kernel) rfl rfl rfl (Nat.le_of_ble_eq_true rfl) (Nat.le_of_ble_eq_true rfl) (Nat.le_of_ble_eq_true rfl) (Nat.le_of_ble_eq_true rfl) (H) (fun rv h' hp => ?_)
  obtain ⟨r9, s9, rfl, rfl, hK⟩ := hp
  exact ⟨rfl, rfl, hK⟩
set_option maxRecDepth 20000 in
theorem W_L_law_1156 {scr : ScA}   {x3 : Int32} {y0 : Int32} {y1 : Int32}  {σ : Nat → Nat → Int32} {P : Int32 → (Nat → Nat → Int32) → Prop} (H : (y0 = y1 → K_L_law_18 scr (x3 + 6) σ P) ∧ (¬ y0 = y1 → P 0 σ)) : K_L_law_1156 scr x3 y0 y1 σ P := by
  show XA scr 11 mL 172 4705 1156 [some (.retAddr 4), some (.ref 0), some (.ref 136), some (.int x3)] [.int y1, .int y0] (hs σ) (pI P)
  refine XA.icmp_eq (19) 1175 (by decide +kernel) (fun c1 => ?_) (fun c1 => ?_)
  · have H := H.1 c1
    refine XA.blk (e9 := 18) (ok := true) (ls' := [some (.retAddr 4), some (.ref 0), some (.ref 136), some (.int (x3 + 6))]) (st' := []) (h' := hs σ) [(.iinc 3 6, 3, 3, 0, 0, 0, 6, 0), (.goto (-1160), 3, 18, 0, 0, 0, 0, 0)] (by decide +kernel) rfl rfl ?_
    exact H
  · have H := H.2 c1
    refine XA.blk (e9 := 1160) (ok := true) (ls' := [some (.retAddr 4), some (.ref 0), some (.ref 136), some (.int x3)]) (st' := [.int 0]) (h' := hs σ) [(.iconst 0, 1, 0, 0, 0, 0, 0, 0)] (by decide +kernel) rfl rfl ?_
    exact XA.ret (some (.int 0)) rfl (show ckRt mL 1160 .ireturn = true by decide +kernel) (Or.inl rfl) (Nat.le_of_ble_eq_true rfl) (Nat.le_of_ble_eq_true rfl) ⟨_, _, rfl, rfl, H⟩
set_option maxRecDepth 20000 in
theorem W_L_law_1165 {scr : ScA}   {x3 : Int32} {y0 : Int64}  {σ : Nat → Nat → Int32} {P : Int32 → (Nat → Nat → Int32) → Prop} (H : ClA scr 10 mX11_digest [.ref 136] σ (fun r9 σ' => K_L_law_1169 scr x3 y0 r9 σ' P)) : K_L_law_1165 scr x3 y0 σ P := by
  show XA scr 11 mL 172 4705 1165 [some (.retAddr 4), some (.ref 0), some (.ref 136), some (.int x3)] [.long y0] (hs σ) (pI P)
  refine XA.blk (e9 := 1166) (ok := true) (ls' := [some (.retAddr 4), some (.ref 0), some (.ref 136), some (.int x3)]) (st' := [.ref 136, .long y0]) (h' := hs σ) [(.aload_n 2, 1, 2, 0, 0, 0, 0, 0)] (by decide +kernel) rfl rfl ?_
  refine XA.callV (as := []) (rest := [.long y0]) (mc' := 0) (ms' := 0) (idx := 160) (t := 1403) cv_X11_digest (by decide +kernel) rfl rfl rfl (Nat.le_of_ble_eq_true rfl) (Nat.le_of_ble_eq_true rfl) (Nat.le_of_ble_eq_true rfl) (Nat.le_of_ble_eq_true rfl) (H) (fun rv h' hp => ?_)
  obtain ⟨r9, s9, rfl, rfl, hK⟩ := hp
  exact ⟨rfl, rfl, hK⟩
set_option maxRecDepth 20000 in
theorem W_L_law_1169 {scr : ScA}   {x3 : Int32} {y0 : Int64} {y1 : Int64}  {σ : Nat → Nat → Int32} {P : Int32 → (Nat → Nat → Int32) → Prop} (H : ((lg_cmp y0 y1) = 0 → K_L_law_18 scr (x3 + 6) σ P) ∧ (¬ (lg_cmp y0 y1) = 0 → P 0 σ)) : K_L_law_1169 scr x3 y0 y1 σ P := by
  show XA scr 11 mL 172 4705 1169 [some (.retAddr 4), some (.ref 0), some (.ref 136), some (.int x3)] [.long y1, .long y0] (hs σ) (pI P)
  refine XA.blk (e9 := 1170) (ok := true) (ls' := [some (.retAddr 4), some (.ref 0), some (.ref 136), some (.int x3)]) (st' := [.int (lg_cmp y0 y1)]) (h' := hs σ) [(.lcmp, 1, 0, 0, 0, 0, 0, 0)] (by decide +kernel) rfl rfl ?_
  refine XA.if_eq (5) 1175 (by decide +kernel) (fun c1 => ?_) (fun c1 => ?_)
  · have H := H.1 c1
    refine XA.blk (e9 := 18) (ok := true) (ls' := [some (.retAddr 4), some (.ref 0), some (.ref 136), some (.int (x3 + 6))]) (st' := []) (h' := hs σ) [(.iinc 3 6, 3, 3, 0, 0, 0, 6, 0), (.goto (-1160), 3, 18, 0, 0, 0, 0, 0)] (by decide +kernel) rfl rfl ?_
    exact H
  · have H := H.2 c1
    refine XA.blk (e9 := 1174) (ok := true) (ls' := [some (.retAddr 4), some (.ref 0), some (.ref 136), some (.int x3)]) (st' := [.int 0]) (h' := hs σ) [(.iconst 0, 1, 0, 0, 0, 0, 0, 0)] (by decide +kernel) rfl rfl ?_
    exact XA.ret (some (.int 0)) rfl (show ckRt mL 1174 .ireturn = true by decide +kernel) (Or.inl rfl) (Nat.le_of_ble_eq_true rfl) (Nat.le_of_ble_eq_true rfl) ⟨_, _, rfl, rfl, H⟩
