def hc_348ac27518 : List AC := [.inr (11, [.inr (.inr (some (.inl 1))), .inr (.inr (some (.inr 0))), .inr (.inr (some (.inr 1))), .inr (.inr (some (.inr 2))), .inr (.inr (some (.inr 3))), .inr (.inr (some (.inr 4))), .inr (.inr (some (.inr 5))), .inr (.inr (some (.inr 6))), .inl (0, 48), .inr (.inr (some (.inr 7))), .inl (0, 260), .inl (0, 240), .inl (0, 240), .inl (-2147483648, 2147483647), .inl (-2147483648, 2147483647), .inl (-2147483648, 2147483647), .inl (0, 260), .inl (0, 260), .inl (0, 16), .inr (.inr (some (.inr 200))), .inr (.inr (some (.inr 8))), .inr (.inr (some (.inr 9))), .inr (.inr (some (.inr 10))), .inr (.inr (some (.inr 11))), .inr (.inr (some (.inr 12))), .inr (.inr (some (.inr 13))), .inr (.inr (some (.inr 14))), .inr (.inr (some (.inr 15))), .inr (.inr (some (.inr 16))), .inr (.inr (some (.inr 17))), .inr (.inr (some (.inr 18))), .inr (.inr (some (.inr 19))), .inr (.inr (some (.inr 20))), .inr (.inr (some (.inr 21))), .inr (.inr (some (.inr 22))), .inr (.inr (some (.inr 23))), .inr (.inr (some (.inr 24))), .inl (-2147483648, 2147483647), .inl (-2147483648, 2147483647), .inl (-2147483648, 2147483647), .inl (-2147483648, 2147483647), .inl (-2147483648, 2147483647), .inl (-2147483648, 2147483647), .inl (-2147483648, 2147483647), .inl (-2147483648, 2147483647), .inl (-2147483648, 2147483647), .inl (-2147483648, 2147483647), .inr (.inr (some (.inr 25))), .inr (.inr (some (.inr 26))), .inr (.inr (some (.inr 27))), .inr (.inr (some (.inr 28))), .inr (.inr (some (.inr 29))), .inr (.inr (some (.inr 201)))]), .inl (600, 130, 0, 383)]
def hc_a45da04a91 : List AC := [.inr (11, [.inr (.inr (some (.inr 0))), .inr (.inr (some (.inr 1))), .inr (.inr (some (.inr 2))), .inr (.inr (some (.inr 3))), .inr (.inr (some (.inr 4))), .inr (.inr (some (.inr 5))), .inr (.inr (some (.inr 6))), .inr (.inr (some (.inr 7))), .inl (0, 48), .inr (.inr (some (.inr 8))), .inl (0, 260), .inl (0, 240), .inl (0, 240), .inl (-2147483648, 2147483647), .inl (-2147483648, 2147483647), .inl (-2147483648, 2147483647), .inl (0, 260), .inl (0, 260), .inl (0, 16), .inr (.inr (some (.inr 200))), .inr (.inr (some (.inr 9))), .inr (.inr (some (.inr 10))), .inr (.inr (some (.inr 11))), .inr (.inr (some (.inr 12))), .inr (.inr (some (.inr 13))), .inr (.inr (some (.inr 14))), .inr (.inr (some (.inr 15))), .inr (.inr (some (.inr 16))), .inr (.inr (some (.inr 17))), .inr (.inr (some (.inr 18))), .inr (.inr (some (.inr 19))), .inr (.inr (some (.inr 20))), .inr (.inr (some (.inr 21))), .inr (.inr (some (.inr 22))), .inr (.inr (some (.inr 23))), .inr (.inr (some (.inr 24))), .inr (.inr (some (.inr 25))), .inl (-2147483648, 2147483647), .inl (-2147483648, 2147483647), .inl (-2147483648, 2147483647), .inl (-2147483648, 2147483647), .inl (-2147483648, 2147483647), .inl (-2147483648, 2147483647), .inl (-2147483648, 2147483647), .inl (-2147483648, 2147483647), .inl (-2147483648, 2147483647), .inl (-2147483648, 2147483647), .inr (.inr (some (.inr 26))), .inr (.inr (some (.inr 27))), .inr (.inr (some (.inr 28))), .inr (.inr (some (.inr 29))), .inr (.inr (some (.inr 30))), .inr (.inr (some (.inr 201)))])]
def hc_e927317612 : List AC := [.inr (11, [.inr (.inr (some (.inl 1))), .inr (.inr (some (.inr 0))), .inr (.inr (some (.inr 1))), .inr (.inr (some (.inl 2))), .inr (.inr (some (.inl 3))), .inr (.inr (some (.inl 4))), .inr (.inr (some (.inr 2))), .inr (.inr (some (.inr 3))), .inl (0, 48), .inr (.inr (some (.inr 4))), .inl (0, 260), .inl (0, 240), .inl (0, 240), .inl (-2147483648, 2147483647), .inl (-2147483648, 2147483647), .inl (-2147483648, 2147483647), .inl (0, 260), .inl (0, 260), .inl (0, 16), .inr (.inr (some (.inr 200))), .inr (.inr (some (.inr 5))), .inr (.inr (some (.inr 6))), .inr (.inr (some (.inr 7))), .inr (.inr (some (.inr 8))), .inr (.inr (some (.inr 9))), .inr (.inr (some (.inr 10))), .inr (.inr (some (.inr 11))), .inr (.inr (some (.inr 12))), .inr (.inr (some (.inr 13))), .inr (.inr (some (.inr 14))), .inr (.inr (some (.inr 15))), .inr (.inr (some (.inr 16))), .inr (.inr (some (.inl 5))), .inr (.inr (some (.inr 17))), .inr (.inr (some (.inr 18))), .inr (.inr (some (.inr 19))), .inr (.inr (some (.inr 20))), .inl (-2147483648, 2147483647), .inl (-2147483648, 2147483647), .inl (-2147483648, 2147483647), .inl (-2147483648, 2147483647), .inl (-2147483648, 2147483647), .inl (-2147483648, 2147483647), .inl (-2147483648, 2147483647), .inl (-2147483648, 2147483647), .inl (-2147483648, 2147483647), .inl (-2147483648, 2147483647), .inr (.inr (some (.inr 21))), .inr (.inr (some (.inr 22))), .inr (.inr (some (.inr 23))), .inr (.inr (some (.inr 24))), .inr (.inr (some (.inr 25))), .inr (.inr (some (.inr 201)))]), .inl (600, 130, 0, 383), .inl (0, 8, -1, 383), .inl (0, 48, 0, 7), .inl (0, 48, 0, 2), .inl (0, 9, -2147483648, 2147483647)]
def hc_f6ee69c243 : List AC := [.inr (11, [.inr (.inr (some (.inr 0))), .inr (.inr (some (.inr 1))), .inr (.inr (some (.inr 2))), .inr (.inr (some (.inr 3))), .inr (.inr (some (.inr 4))), .inr (.inr (some (.inr 5))), .inr (.inr (some (.inr 6))), .inr (.inr (some (.inr 7))), .inl (0, 48), .inr (.inr (some (.inl 1))), .inl (0, 260), .inl (0, 240), .inl (0, 240), .inl (-2147483648, 2147483647), .inl (-2147483648, 2147483647), .inl (-2147483648, 2147483647), .inl (0, 260), .inl (0, 260), .inl (0, 16), .inr (.inr (some (.inr 200))), .inr (.inr (some (.inr 8))), .inr (.inr (some (.inr 9))), .inr (.inr (some (.inr 10))), .inr (.inr (some (.inr 11))), .inr (.inr (some (.inr 12))), .inr (.inr (some (.inr 13))), .inr (.inr (some (.inr 14))), .inr (.inr (some (.inr 15))), .inr (.inr (some (.inr 16))), .inr (.inr (some (.inr 17))), .inr (.inr (some (.inr 18))), .inr (.inr (some (.inr 19))), .inr (.inr (some (.inr 20))), .inr (.inr (some (.inr 21))), .inr (.inr (some (.inr 22))), .inr (.inr (some (.inr 23))), .inr (.inr (some (.inr 24))), .inl (-2147483648, 2147483647), .inl (-2147483648, 2147483647), .inl (-2147483648, 2147483647), .inl (-2147483648, 2147483647), .inl (-2147483648, 2147483647), .inl (-2147483648, 2147483647), .inl (-2147483648, 2147483647), .inl (-2147483648, 2147483647), .inl (-2147483648, 2147483647), .inl (-2147483648, 2147483647), .inr (.inr (some (.inr 25))), .inr (.inr (some (.inr 26))), .inr (.inr (some (.inr 27))), .inr (.inr (some (.inr 28))), .inr (.inr (some (.inr 29))), .inr (.inr (some (.inr 201)))]), .inl (1, 260, -128, 127)]
def hc_85dc65d58f : List AC := [.inr (11, [.inr (.inr (some (.inr 0))), .inr (.inr (some (.inr 1))), .inr (.inr (some (.inr 2))), .inr (.inr (some (.inl 1))), .inr (.inr (some (.inl 2))), .inr (.inr (some (.inl 3))), .inr (.inr (some (.inr 3))), .inr (.inr (some (.inr 4))), .inl (0, 48), .inr (.inr (some (.inr 5))), .inl (0, 260), .inl (0, 240), .inl (0, 240), .inl (-2147483648, 2147483647), .inl (-2147483648, 2147483647), .inl (-2147483648, 2147483647), .inl (0, 260), .inl (0, 260), .inl (0, 16), .inr (.inr (some (.inr 200))), .inr (.inr (some (.inr 6))), .inr (.inr (some (.inr 7))), .inr (.inr (some (.inr 8))), .inr (.inr (some (.inr 9))), .inr (.inr (some (.inr 10))), .inr (.inr (some (.inr 11))), .inr (.inr (some (.inr 12))), .inr (.inr (some (.inr 13))), .inr (.inr (some (.inr 14))), .inr (.inr (some (.inr 15))), .inr (.inr (some (.inr 16))), .inr (.inr (some (.inr 17))), .inr (.inr (some (.inr 18))), .inr (.inr (some (.inr 19))), .inr (.inr (some (.inr 20))), .inr (.inr (some (.inr 21))), .inr (.inr (some (.inr 22))), .inl (-2147483648, 2147483647), .inl (-2147483648, 2147483647), .inl (-2147483648, 2147483647), .inl (-2147483648, 2147483647), .inl (-2147483648, 2147483647), .inl (-2147483648, 2147483647), .inl (-2147483648, 2147483647), .inl (-2147483648, 2147483647), .inl (-2147483648, 2147483647), .inl (-2147483648, 2147483647), .inr (.inr (some (.inr 23))), .inr (.inr (some (.inr 24))), .inr (.inr (some (.inl 4))), .inr (.inr (some (.inr 25))), .inr (.inr (some (.inr 26))), .inr (.inr (some (.inr 201)))]), .inl (0, 8, -1, 383), .inl (0, 48, 0, 7), .inl (0, 48, 0, 2), .inl (0, 9, 0, 47)]
def hc_30dde594b3 : List AC := [.inr (11, [.inr (.inr (some (.inl 1))), .inr (.inr (some (.inr 0))), .inr (.inr (some (.inr 1))), .inr (.inr (some (.inr 2))), .inr (.inr (some (.inr 3))), .inr (.inr (some (.inr 4))), .inr (.inr (some (.inr 5))), .inr (.inr (some (.inr 6))), .inl (0, 48), .inr (.inr (some (.inl 2))), .inl (0, 260), .inl (0, 240), .inl (0, 240), .inl (-2147483648, 2147483647), .inl (-2147483648, 2147483647), .inl (-2147483648, 2147483647), .inl (0, 260), .inl (0, 260), .inl (0, 16), .inr (.inr (some (.inr 200))), .inr (.inr (some (.inr 7))), .inr (.inr (some (.inr 8))), .inr (.inr (some (.inr 9))), .inr (.inr (some (.inr 10))), .inr (.inr (some (.inr 11))), .inr (.inr (some (.inr 12))), .inr (.inr (some (.inr 13))), .inr (.inr (some (.inr 14))), .inr (.inr (some (.inr 15))), .inr (.inr (some (.inr 16))), .inr (.inr (some (.inr 17))), .inr (.inr (some (.inr 18))), .inr (.inr (some (.inr 19))), .inr (.inr (some (.inr 20))), .inr (.inr (some (.inr 21))), .inr (.inr (some (.inr 22))), .inr (.inr (some (.inr 23))), .inl (-2147483648, 2147483647), .inl (-2147483648, 2147483647), .inl (-2147483648, 2147483647), .inl (-2147483648, 2147483647), .inl (-2147483648, 2147483647), .inl (-2147483648, 2147483647), .inl (-2147483648, 2147483647), .inl (-2147483648, 2147483647), .inl (-2147483648, 2147483647), .inl (-2147483648, 2147483647), .inr (.inr (some (.inr 24))), .inr (.inr (some (.inr 25))), .inr (.inr (some (.inr 26))), .inr (.inr (some (.inr 27))), .inr (.inr (some (.inr 28))), .inr (.inr (some (.inr 201)))]), .inl (600, 130, 0, 383), .inl (1, 260, -128, 127)]
def hc_f49572744a : List AC := [.inr (11, [.inr (.inr (some (.inr 0))), .inr (.inr (some (.inr 1))), .inr (.inr (some (.inr 2))), .inr (.inr (some (.inl 1))), .inr (.inr (some (.inr 3))), .inr (.inr (some (.inr 4))), .inr (.inr (some (.inr 5))), .inr (.inr (some (.inr 6))), .inl (0, 48), .inr (.inr (some (.inr 7))), .inl (0, 260), .inl (0, 240), .inl (0, 240), .inl (-2147483648, 2147483647), .inl (-2147483648, 2147483647), .inl (-2147483648, 2147483647), .inl (0, 260), .inl (0, 260), .inl (0, 16), .inr (.inr (some (.inr 200))), .inr (.inr (some (.inr 8))), .inr (.inr (some (.inr 9))), .inr (.inr (some (.inr 10))), .inr (.inr (some (.inr 11))), .inr (.inr (some (.inr 12))), .inr (.inr (some (.inr 13))), .inr (.inr (some (.inr 14))), .inr (.inr (some (.inr 15))), .inr (.inr (some (.inr 16))), .inr (.inr (some (.inr 17))), .inr (.inr (some (.inr 18))), .inr (.inr (some (.inr 19))), .inr (.inr (some (.inr 20))), .inr (.inr (some (.inr 21))), .inr (.inr (some (.inr 22))), .inr (.inr (some (.inr 23))), .inr (.inr (some (.inr 24))), .inl (-2147483648, 2147483647), .inl (-2147483648, 2147483647), .inl (-2147483648, 2147483647), .inl (-2147483648, 2147483647), .inl (-2147483648, 2147483647), .inl (-2147483648, 2147483647), .inl (-2147483648, 2147483647), .inl (-2147483648, 2147483647), .inl (-2147483648, 2147483647), .inl (-2147483648, 2147483647), .inr (.inr (some (.inr 25))), .inr (.inr (some (.inr 26))), .inr (.inr (some (.inr 27))), .inr (.inr (some (.inr 28))), .inr (.inr (some (.inr 29))), .inr (.inr (some (.inr 201)))]), .inl (0, 8, -1, 383)]
def hc_00245e3b5c : List AC := [.inr (11, [.inr (.inr (some (.inl 1))), .inr (.inr (some (.inr 0))), .inr (.inr (some (.inr 1))), .inr (.inr (some (.inl 2))), .inr (.inr (some (.inr 2))), .inr (.inr (some (.inr 3))), .inr (.inr (some (.inl 3))), .inr (.inr (some (.inr 4))), .inl (0, 48), .inr (.inr (some (.inr 5))), .inl (0, 260), .inl (0, 240), .inl (0, 240), .inl (-2147483648, 2147483647), .inl (-2147483648, 2147483647), .inl (-2147483648, 2147483647), .inl (0, 260), .inl (0, 260), .inl (0, 16), .inr (.inr (some (.inr 200))), .inr (.inr (some (.inr 6))), .inr (.inr (some (.inr 7))), .inr (.inr (some (.inr 8))), .inr (.inr (some (.inr 9))), .inr (.inr (some (.inr 10))), .inr (.inr (some (.inr 11))), .inr (.inr (some (.inr 12))), .inr (.inr (some (.inr 13))), .inr (.inr (some (.inr 14))), .inr (.inr (some (.inr 15))), .inr (.inr (some (.inr 16))), .inr (.inr (some (.inr 17))), .inr (.inr (some (.inr 18))), .inr (.inr (some (.inr 19))), .inr (.inr (some (.inr 20))), .inr (.inr (some (.inr 21))), .inr (.inr (some (.inr 22))), .inl (-2147483648, 2147483647), .inl (-2147483648, 2147483647), .inl (-2147483648, 2147483647), .inl (-2147483648, 2147483647), .inl (-2147483648, 2147483647), .inl (-2147483648, 2147483647), .inl (-2147483648, 2147483647), .inl (-2147483648, 2147483647), .inl (-2147483648, 2147483647), .inl (-2147483648, 2147483647), .inr (.inr (some (.inr 23))), .inr (.inr (some (.inr 24))), .inr (.inr (some (.inr 25))), .inr (.inr (some (.inr 26))), .inr (.inr (some (.inr 27))), .inr (.inr (some (.inr 201)))]), .inl (600, 130, 0, 383), .inl (0, 8, -1, 383), .inl (2, 384, 0, 1)]
def hc_5c745cabc7 : List AC := [.inr (11, [.inr (.inr (some (.inr 0))), .inr (.inr (some (.inr 1))), .inr (.inr (some (.inr 2))), .inr (.inr (some (.inl 1))), .inr (.inr (some (.inl 2))), .inr (.inr (some (.inr 3))), .inr (.inr (some (.inr 4))), .inr (.inr (some (.inr 5))), .inl (0, 48), .inr (.inr (some (.inl 3))), .inl (0, 260), .inl (0, 240), .inl (0, 240), .inl (-2147483648, 2147483647), .inl (-2147483648, 2147483647), .inl (-2147483648, 2147483647), .inl (0, 260), .inl (0, 260), .inl (0, 16), .inr (.inr (some (.inr 200))), .inr (.inr (some (.inr 6))), .inr (.inr (some (.inr 7))), .inr (.inr (some (.inr 8))), .inr (.inr (some (.inr 9))), .inr (.inr (some (.inr 10))), .inr (.inr (some (.inr 11))), .inr (.inr (some (.inr 12))), .inr (.inr (some (.inr 13))), .inr (.inr (some (.inr 14))), .inr (.inr (some (.inr 15))), .inr (.inr (some (.inr 16))), .inr (.inr (some (.inr 17))), .inr (.inr (some (.inr 18))), .inr (.inr (some (.inr 19))), .inr (.inr (some (.inr 20))), .inr (.inr (some (.inr 21))), .inr (.inr (some (.inr 22))), .inl (-2147483648, 2147483647), .inl (-2147483648, 2147483647), .inl (-2147483648, 2147483647), .inl (-2147483648, 2147483647), .inl (-2147483648, 2147483647), .inl (-2147483648, 2147483647), .inl (-2147483648, 2147483647), .inl (-2147483648, 2147483647), .inl (-2147483648, 2147483647), .inl (-2147483648, 2147483647), .inr (.inr (some (.inr 23))), .inr (.inr (some (.inr 24))), .inr (.inr (some (.inl 4))), .inr (.inr (some (.inr 25))), .inr (.inr (some (.inr 26))), .inr (.inr (some (.inr 201)))]), .inl (0, 8, -1, 383), .inl (0, 48, 0, 7), .inl (1, 260, -128, 127), .inl (0, 9, 0, 47)]
def hc_5f664be027 : List AC := [.inr (11, [.inr (.inr (some (.inr 0))), .inr (.inr (some (.inr 1))), .inr (.inr (some (.inr 2))), .inr (.inr (some (.inl 1))), .inr (.inr (some (.inl 2))), .inr (.inr (some (.inl 3))), .inr (.inr (some (.inr 3))), .inr (.inr (some (.inr 4))), .inl (0, 48), .inr (.inr (some (.inl 4))), .inl (0, 260), .inl (0, 240), .inl (0, 240), .inl (-2147483648, 2147483647), .inl (-2147483648, 2147483647), .inl (-2147483648, 2147483647), .inl (0, 260), .inl (0, 260), .inl (0, 16), .inr (.inr (some (.inr 200))), .inr (.inr (some (.inr 5))), .inr (.inr (some (.inr 6))), .inr (.inr (some (.inr 7))), .inr (.inr (some (.inr 8))), .inr (.inr (some (.inr 9))), .inr (.inr (some (.inr 10))), .inr (.inr (some (.inr 11))), .inr (.inr (some (.inr 12))), .inr (.inr (some (.inr 13))), .inr (.inr (some (.inr 14))), .inr (.inr (some (.inr 15))), .inr (.inr (some (.inr 16))), .inr (.inr (some (.inr 17))), .inr (.inr (some (.inr 18))), .inr (.inr (some (.inr 19))), .inr (.inr (some (.inr 20))), .inr (.inr (some (.inr 21))), .inl (-2147483648, 2147483647), .inl (-2147483648, 2147483647), .inl (-2147483648, 2147483647), .inl (-2147483648, 2147483647), .inl (-2147483648, 2147483647), .inl (-2147483648, 2147483647), .inl (-2147483648, 2147483647), .inl (-2147483648, 2147483647), .inl (-2147483648, 2147483647), .inl (-2147483648, 2147483647), .inr (.inr (some (.inr 22))), .inr (.inr (some (.inr 23))), .inr (.inr (some (.inl 5))), .inr (.inr (some (.inr 24))), .inr (.inr (some (.inr 25))), .inr (.inr (some (.inr 201)))]), .inl (0, 8, -1, 383), .inl (0, 48, 0, 7), .inl (0, 48, 0, 2), .inl (1, 260, -128, 127), .inl (0, 9, 0, 47)]
def hc_8515b9ef0d : List AC := [.inr (11, [.inr (.inr (some (.inr 0))), .inr (.inr (some (.inr 1))), .inr (.inr (some (.inr 2))), .inr (.inr (some (.inr 3))), .inr (.inr (some (.inr 4))), .inr (.inr (some (.inr 5))), .inr (.inr (some (.inr 6))), .inr (.inr (some (.inr 7))), .inl (0, 48), .inr (.inr (some (.inl 1))), .inl (0, 244), .inl (0, 240), .inl (0, 240), .inl (-2147483648, 2147483647), .inl (-2147483648, 2147483647), .inl (-2147483648, 2147483647), .inl (0, 260), .inl (0, 260), .inl (0, 16), .inr (.inr (some (.inr 200))), .inr (.inr (some (.inr 8))), .inr (.inr (some (.inr 9))), .inr (.inr (some (.inr 10))), .inr (.inr (some (.inr 11))), .inr (.inr (some (.inr 12))), .inr (.inr (some (.inr 13))), .inr (.inr (some (.inr 14))), .inr (.inr (some (.inr 15))), .inr (.inr (some (.inr 16))), .inr (.inr (some (.inr 17))), .inr (.inr (some (.inr 18))), .inr (.inr (some (.inr 19))), .inr (.inr (some (.inr 20))), .inr (.inr (some (.inr 21))), .inr (.inr (some (.inr 22))), .inr (.inr (some (.inr 23))), .inr (.inr (some (.inr 24))), .inl (-2147483648, 2147483647), .inl (-2147483648, 2147483647), .inl (-2147483648, 2147483647), .inl (-2147483648, 2147483647), .inl (-2147483648, 2147483647), .inl (-2147483648, 2147483647), .inl (-2147483648, 2147483647), .inl (-2147483648, 2147483647), .inl (-2147483648, 2147483647), .inl (-2147483648, 2147483647), .inr (.inr (some (.inr 25))), .inr (.inr (some (.inr 26))), .inr (.inr (some (.inr 27))), .inr (.inr (some (.inr 28))), .inr (.inr (some (.inr 29))), .inr (.inr (some (.inr 201)))]), .inl (1, 260, -128, 127)]
def hc_efc8a46aa1 : List AC := [.inr (11, [.inr (.inr (some (.inr 0))), .inr (.inr (some (.inr 1))), .inr (.inr (some (.inr 2))), .inr (.inr (some (.inr 3))), .inr (.inr (some (.inr 4))), .inr (.inr (some (.inr 5))), .inr (.inr (some (.inr 6))), .inr (.inr (some (.inr 7))), .inl (0, 48), .inr (.inr (some (.inl 1))), .inl (0, 248), .inl (0, 240), .inl (0, 240), .inl (-2147483648, 2147483647), .inl (-2147483648, 2147483647), .inl (-2147483648, 2147483647), .inl (0, 260), .inl (0, 260), .inl (0, 16), .inr (.inr (some (.inr 200))), .inr (.inr (some (.inr 8))), .inr (.inr (some (.inr 9))), .inr (.inr (some (.inr 10))), .inr (.inr (some (.inr 11))), .inr (.inr (some (.inr 12))), .inr (.inr (some (.inr 13))), .inr (.inr (some (.inr 14))), .inr (.inr (some (.inr 15))), .inr (.inr (some (.inr 16))), .inr (.inr (some (.inr 17))), .inr (.inr (some (.inr 18))), .inr (.inr (some (.inr 19))), .inr (.inr (some (.inr 20))), .inr (.inr (some (.inr 21))), .inr (.inr (some (.inr 22))), .inr (.inr (some (.inr 23))), .inr (.inr (some (.inr 24))), .inl (-2147483648, 2147483647), .inl (-2147483648, 2147483647), .inl (-2147483648, 2147483647), .inl (-2147483648, 2147483647), .inl (-2147483648, 2147483647), .inl (-2147483648, 2147483647), .inl (-2147483648, 2147483647), .inl (-2147483648, 2147483647), .inl (-2147483648, 2147483647), .inl (-2147483648, 2147483647), .inr (.inr (some (.inr 25))), .inr (.inr (some (.inr 26))), .inr (.inr (some (.inr 27))), .inr (.inr (some (.inr 28))), .inr (.inr (some (.inr 29))), .inr (.inr (some (.inr 201)))]), .inl (1, 260, -128, 127)]
def hc_9e1bbb7baa : List AC := [.inr (11, [.inr (.inr (some (.inr 0))), .inr (.inr (some (.inr 1))), .inr (.inr (some (.inr 2))), .inr (.inr (some (.inr 3))), .inr (.inr (some (.inr 4))), .inr (.inr (some (.inr 5))), .inr (.inr (some (.inr 6))), .inr (.inr (some (.inr 7))), .inl (0, 48), .inr (.inr (some (.inl 1))), .inl (0, 252), .inl (0, 240), .inl (0, 240), .inl (-2147483648, 2147483647), .inl (-2147483648, 2147483647), .inl (-2147483648, 2147483647), .inl (0, 260), .inl (0, 260), .inl (0, 16), .inr (.inr (some (.inr 200))), .inr (.inr (some (.inr 8))), .inr (.inr (some (.inr 9))), .inr (.inr (some (.inr 10))), .inr (.inr (some (.inr 11))), .inr (.inr (some (.inr 12))), .inr (.inr (some (.inr 13))), .inr (.inr (some (.inr 14))), .inr (.inr (some (.inr 15))), .inr (.inr (some (.inr 16))), .inr (.inr (some (.inr 17))), .inr (.inr (some (.inr 18))), .inr (.inr (some (.inr 19))), .inr (.inr (some (.inr 20))), .inr (.inr (some (.inr 21))), .inr (.inr (some (.inr 22))), .inr (.inr (some (.inr 23))), .inr (.inr (some (.inr 24))), .inl (-2147483648, 2147483647), .inl (-2147483648, 2147483647), .inl (-2147483648, 2147483647), .inl (-2147483648, 2147483647), .inl (-2147483648, 2147483647), .inl (-2147483648, 2147483647), .inl (-2147483648, 2147483647), .inl (-2147483648, 2147483647), .inl (-2147483648, 2147483647), .inl (-2147483648, 2147483647), .inr (.inr (some (.inr 25))), .inr (.inr (some (.inr 26))), .inr (.inr (some (.inr 27))), .inr (.inr (some (.inr 28))), .inr (.inr (some (.inr 29))), .inr (.inr (some (.inr 201)))]), .inl (1, 260, -128, 127)]
def hc_c8515669ef : List AC := [.inr (11, [.inr (.inr (some (.inr 0))), .inr (.inr (some (.inr 1))), .inr (.inr (some (.inr 2))), .inr (.inr (some (.inr 3))), .inr (.inr (some (.inr 4))), .inr (.inr (some (.inr 5))), .inr (.inr (some (.inr 6))), .inr (.inr (some (.inr 7))), .inl (0, 48), .inr (.inr (some (.inl 1))), .inl (0, 256), .inl (0, 240), .inl (0, 240), .inl (-2147483648, 2147483647), .inl (-2147483648, 2147483647), .inl (-2147483648, 2147483647), .inl (0, 260), .inl (0, 260), .inl (0, 16), .inr (.inr (some (.inr 200))), .inr (.inr (some (.inr 8))), .inr (.inr (some (.inr 9))), .inr (.inr (some (.inr 10))), .inr (.inr (some (.inr 11))), .inr (.inr (some (.inr 12))), .inr (.inr (some (.inr 13))), .inr (.inr (some (.inr 14))), .inr (.inr (some (.inr 15))), .inr (.inr (some (.inr 16))), .inr (.inr (some (.inr 17))), .inr (.inr (some (.inr 18))), .inr (.inr (some (.inr 19))), .inr (.inr (some (.inr 20))), .inr (.inr (some (.inr 21))), .inr (.inr (some (.inr 22))), .inr (.inr (some (.inr 23))), .inr (.inr (some (.inr 24))), .inl (-2147483648, 2147483647), .inl (-2147483648, 2147483647), .inl (-2147483648, 2147483647), .inl (-2147483648, 2147483647), .inl (-2147483648, 2147483647), .inl (-2147483648, 2147483647), .inl (-2147483648, 2147483647), .inl (-2147483648, 2147483647), .inl (-2147483648, 2147483647), .inl (-2147483648, 2147483647), .inr (.inr (some (.inr 25))), .inr (.inr (some (.inr 26))), .inr (.inr (some (.inr 27))), .inr (.inr (some (.inr 28))), .inr (.inr (some (.inr 29))), .inr (.inr (some (.inr 201)))]), .inl (1, 260, -128, 127)]
def hc_cc42e4a982 : List AC := [.inr (11, [.inr (.inr (some (.inr 0))), .inr (.inr (some (.inr 1))), .inr (.inr (some (.inr 2))), .inr (.inr (some (.inr 3))), .inr (.inr (some (.inr 4))), .inr (.inr (some (.inr 5))), .inr (.inr (some (.inr 6))), .inr (.inr (some (.inr 7))), .inl (0, 48), .inr (.inr (some (.inl 1))), .inl (0, 260), .inl (0, 239), .inl (0, 240), .inl (-2147483648, 2147483647), .inl (-2147483648, 2147483647), .inl (-2147483648, 2147483647), .inl (0, 260), .inl (0, 260), .inl (0, 16), .inr (.inr (some (.inr 200))), .inr (.inr (some (.inr 8))), .inr (.inr (some (.inr 9))), .inr (.inr (some (.inr 10))), .inr (.inr (some (.inr 11))), .inr (.inr (some (.inr 12))), .inr (.inr (some (.inr 13))), .inr (.inr (some (.inr 14))), .inr (.inr (some (.inr 15))), .inr (.inr (some (.inr 16))), .inr (.inr (some (.inr 17))), .inr (.inr (some (.inr 18))), .inr (.inr (some (.inr 19))), .inr (.inr (some (.inr 20))), .inr (.inr (some (.inr 21))), .inr (.inr (some (.inr 22))), .inr (.inr (some (.inr 23))), .inr (.inr (some (.inr 24))), .inl (-2147483648, 2147483647), .inl (-2147483648, 2147483647), .inl (-2147483648, 2147483647), .inl (-2147483648, 2147483647), .inl (-2147483648, 2147483647), .inl (-2147483648, 2147483647), .inl (-2147483648, 2147483647), .inl (-2147483648, 2147483647), .inl (-2147483648, 2147483647), .inl (-2147483648, 2147483647), .inr (.inr (some (.inr 25))), .inr (.inr (some (.inr 26))), .inr (.inr (some (.inr 27))), .inr (.inr (some (.inr 28))), .inr (.inr (some (.inr 29))), .inr (.inr (some (.inr 201)))]), .inl (1, 260, -128, 127)]
def hc_96a5383a17 : List AC := [.inr (11, [.inr (.inr (some (.inl 1))), .inr (.inr (some (.inr 0))), .inr (.inr (some (.inr 1))), .inr (.inr (some (.inr 2))), .inr (.inr (some (.inl 2))), .inr (.inr (some (.inl 3))), .inr (.inr (some (.inr 3))), .inr (.inr (some (.inr 4))), .inl (0, 48), .inr (.inr (some (.inr 5))), .inl (0, 260), .inl (0, 240), .inl (0, 240), .inl (-2147483648, 2147483647), .inl (-2147483648, 2147483647), .inl (-2147483648, 2147483647), .inl (0, 260), .inl (0, 260), .inl (0, 16), .inr (.inr (some (.inr 200))), .inr (.inr (some (.inr 6))), .inr (.inr (some (.inr 7))), .inr (.inr (some (.inr 8))), .inr (.inr (some (.inr 9))), .inr (.inr (some (.inr 10))), .inr (.inr (some (.inr 11))), .inr (.inr (some (.inr 12))), .inr (.inr (some (.inr 13))), .inr (.inr (some (.inr 14))), .inr (.inr (some (.inr 15))), .inr (.inr (some (.inr 16))), .inr (.inr (some (.inr 17))), .inr (.inr (some (.inr 18))), .inr (.inr (some (.inr 19))), .inr (.inr (some (.inr 20))), .inr (.inr (some (.inr 21))), .inr (.inr (some (.inr 22))), .inl (-2147483648, 2147483647), .inl (-2147483648, 2147483647), .inl (-2147483648, 2147483647), .inl (-2147483648, 2147483647), .inl (-2147483648, 2147483647), .inl (-2147483648, 2147483647), .inl (-2147483648, 2147483647), .inl (-2147483648, 2147483647), .inl (-2147483648, 2147483647), .inl (-2147483648, 2147483647), .inr (.inr (some (.inr 23))), .inr (.inr (some (.inr 24))), .inr (.inr (some (.inr 25))), .inr (.inr (some (.inr 26))), .inr (.inr (some (.inr 27))), .inr (.inr (some (.inr 201)))]), .inl (600, 130, 0, 383), .inl (0, 48, 0, 7), .inl (0, 48, 0, 2)]
def hc_1570bcb7db : List AC := [.inr (11, [.inr (.inr (some (.inl 1))), .inr (.inr (some (.inr 0))), .inr (.inr (some (.inr 1))), .inr (.inr (some (.inl 2))), .inr (.inr (some (.inl 3))), .inr (.inr (some (.inl 4))), .inr (.inr (some (.inr 2))), .inr (.inr (some (.inr 3))), .inl (0, 48), .inr (.inr (some (.inr 4))), .inl (0, 260), .inl (0, 240), .inl (0, 240), .inl (-2147483648, 2147483647), .inl (-2147483648, 2147483647), .inl (-2147483648, 2147483647), .inl (0, 260), .inl (0, 260), .inl (0, 16), .inr (.inr (some (.inr 200))), .inr (.inr (some (.inr 5))), .inr (.inr (some (.inr 6))), .inr (.inr (some (.inr 7))), .inr (.inr (some (.inr 8))), .inr (.inr (some (.inr 9))), .inr (.inr (some (.inr 10))), .inr (.inr (some (.inr 11))), .inr (.inr (some (.inr 12))), .inr (.inr (some (.inr 13))), .inr (.inr (some (.inr 14))), .inr (.inr (some (.inr 15))), .inr (.inr (some (.inr 16))), .inr (.inr (some (.inr 17))), .inr (.inr (some (.inr 18))), .inr (.inr (some (.inr 19))), .inr (.inr (some (.inr 20))), .inr (.inr (some (.inr 21))), .inl (-2147483648, 2147483647), .inl (-2147483648, 2147483647), .inl (-2147483648, 2147483647), .inl (-2147483648, 2147483647), .inl (-2147483648, 2147483647), .inl (-2147483648, 2147483647), .inl (-2147483648, 2147483647), .inl (-2147483648, 2147483647), .inl (-2147483648, 2147483647), .inl (-2147483648, 2147483647), .inr (.inr (some (.inr 22))), .inr (.inr (some (.inr 23))), .inr (.inr (some (.inr 24))), .inr (.inr (some (.inr 25))), .inr (.inr (some (.inr 26))), .inr (.inr (some (.inr 201)))]), .inl (600, 130, 0, 383), .inl (0, 8, -1, 383), .inl (0, 48, 0, 7), .inl (0, 48, 0, 2)]
def hc_254130797e : List AC := [.inr (11, [.inr (.inr (some (.inr 0))), .inr (.inr (some (.inr 1))), .inr (.inr (some (.inr 2))), .inr (.inr (some (.inl 1))), .inr (.inr (some (.inr 3))), .inr (.inr (some (.inr 4))), .inr (.inr (some (.inr 5))), .inr (.inr (some (.inr 6))), .inl (0, 48), .inr (.inr (some (.inl 2))), .inl (0, 260), .inl (0, 240), .inl (0, 240), .inl (-2147483648, 2147483647), .inl (-2147483648, 2147483647), .inl (-2147483648, 2147483647), .inl (0, 260), .inl (0, 260), .inl (0, 16), .inr (.inr (some (.inr 200))), .inr (.inr (some (.inr 7))), .inr (.inr (some (.inr 8))), .inr (.inr (some (.inr 9))), .inr (.inr (some (.inr 10))), .inr (.inr (some (.inr 11))), .inr (.inr (some (.inr 12))), .inr (.inr (some (.inr 13))), .inr (.inr (some (.inr 14))), .inr (.inr (some (.inr 15))), .inr (.inr (some (.inr 16))), .inr (.inr (some (.inr 17))), .inr (.inr (some (.inr 18))), .inr (.inr (some (.inr 19))), .inr (.inr (some (.inr 20))), .inr (.inr (some (.inr 21))), .inr (.inr (some (.inr 22))), .inr (.inr (some (.inr 23))), .inl (-2147483648, 2147483647), .inl (-2147483648, 2147483647), .inl (-2147483648, 2147483647), .inl (-2147483648, 2147483647), .inl (-2147483648, 2147483647), .inl (-2147483648, 2147483647), .inl (-2147483648, 2147483647), .inl (-2147483648, 2147483647), .inl (-2147483648, 2147483647), .inl (-2147483648, 2147483647), .inr (.inr (some (.inr 24))), .inr (.inr (some (.inr 25))), .inr (.inr (some (.inr 26))), .inr (.inr (some (.inr 27))), .inr (.inr (some (.inr 28))), .inr (.inr (some (.inr 201)))]), .inl (0, 8, -1, 383), .inl (1, 260, -128, 127)]
def P_X12_sign : List Nd := [(1, [], [1, 0]), (10, [], [3, 2, 2]), (0, [-1], [7]), (1, [], [4, 0]), (10, [], [6, 5, 4]), (0, [1], [7]), (0, [0], [7]), (24, [], [])]
def C_X12_sign : Con := ([.inl (-2147483648, 2147483647)], [], [(some (-1, 1), [])])
set_option maxRecDepth 100000 in
theorem s_X12_sign {l : Launch} : conOk (MetP l 0 yX12_sign cX12_sign 1 (some .int) 0 0) C_X12_sign := by
  intro τ hΦ as h ha hh
  refine m_X12_sign  (by rw [all2_len ha]; exact Nat.le_of_ble_eq_true rfl) ?_
  · exact run0 (τ := τ) (P := P_X12_sign) (CE := []) (CS := []) (Ms := []) (GS := []) (Mg := []) (T := ((C_X12_sign.1.map some ++ List.replicate (1 - 1) none, [], C_X12_sign.2.1) : Tg)) (sl := [(0, 0)]) (q := 10) (x := 0) (L := enL as 1) (st := []) (h := h) hΦ (fun j C e => match j, e with | _ + 0, e => (by cases e)) (fun j g e => match j, e with | _ + 0, e => (by cases e)) (RS := C_X12_sign.2.2) (Rv := (fun r h' => ∃ q, q ∈ C_X12_sign.2.2 ∧ gR q.1 r ∧ all2 (gC ρ0 τ) q.2 h')) (GR := none) (M := (0, [])) (fun r h' q hq h1 h2 _ => ⟨q, hq, h1, h2⟩) ⟨door ha, trivial, hh⟩ (by decide +kernel)

def P_X12_sign_n : List Nd := [(1, [], [1, 0]), (10, [], [3, 2, 2]), (0, [-1], [7]), (1, [], [4, 0]), (10, [], [6, 5, 4]), (0, [1], [7]), (0, [0], [7]), (24, [], [])]
def C_X12_sign_n : Con := ([.inl (-2147483648, 0)], [], [(some (-1, 0), [])])
set_option maxRecDepth 100000 in
theorem s_X12_sign_n {l : Launch} : conOk (MetP l 0 yX12_sign cX12_sign 1 (some .int) 0 0) C_X12_sign_n := by
  intro τ hΦ as h ha hh
  refine m_X12_sign  (by rw [all2_len ha]; exact Nat.le_of_ble_eq_true rfl) ?_
  · exact run0 (τ := τ) (P := P_X12_sign_n) (CE := []) (CS := []) (Ms := []) (GS := []) (Mg := []) (T := ((C_X12_sign_n.1.map some ++ List.replicate (1 - 1) none, [], C_X12_sign_n.2.1) : Tg)) (sl := [(0, 0)]) (q := 10) (x := 0) (L := enL as 1) (st := []) (h := h) hΦ (fun j C e => match j, e with | _ + 0, e => (by cases e)) (fun j g e => match j, e with | _ + 0, e => (by cases e)) (RS := C_X12_sign_n.2.2) (Rv := (fun r h' => ∃ q, q ∈ C_X12_sign_n.2.2 ∧ gR q.1 r ∧ all2 (gC ρ0 τ) q.2 h')) (GR := none) (M := (0, [])) (fun r h' q hq h1 h2 _ => ⟨q, hq, h1, h2⟩) ⟨door ha, trivial, hh⟩ (by decide +kernel)

def P_X12_sign_p : List Nd := [(1, [], [1, 0]), (10, [], [3, 2, 2]), (0, [-1], [7]), (1, [], [4, 0]), (10, [], [6, 5, 4]), (0, [1], [7]), (0, [0], [7]), (24, [], [])]
def C_X12_sign_p : Con := ([.inl (0, 2147483647)], [], [(some (0, 1), [])])
set_option maxRecDepth 100000 in
theorem s_X12_sign_p {l : Launch} : conOk (MetP l 0 yX12_sign cX12_sign 1 (some .int) 0 0) C_X12_sign_p := by
  intro τ hΦ as h ha hh
  refine m_X12_sign  (by rw [all2_len ha]; exact Nat.le_of_ble_eq_true rfl) ?_
  · exact run0 (τ := τ) (P := P_X12_sign_p) (CE := []) (CS := []) (Ms := []) (GS := []) (Mg := []) (T := ((C_X12_sign_p.1.map some ++ List.replicate (1 - 1) none, [], C_X12_sign_p.2.1) : Tg)) (sl := [(0, 0)]) (q := 10) (x := 0) (L := enL as 1) (st := []) (h := h) hΦ (fun j C e => match j, e with | _ + 0, e => (by cases e)) (fun j g e => match j, e with | _ + 0, e => (by cases e)) (RS := C_X12_sign_p.2.2) (Rv := (fun r h' => ∃ q, q ∈ C_X12_sign_p.2.2 ∧ gR q.1 r ∧ all2 (gC ρ0 τ) q.2 h')) (GR := none) (M := (0, [])) (fun r h' q hq h1 h2 _ => ⟨q, hq, h1, h2⟩) ⟨door ha, trivial, hh⟩ (by decide +kernel)

def P_X12_acrossTo : List Nd := [(1, [], [1, 1]), (0, [24], [2]), (9, [], [3]), (1, [], [4, 0]), (0, [24], [5]), (9, [], [6]), (6, [], [7, 1]), (26, [], [8, 0, 0, 1]), (24, [], [])]
def C_X12_acrossTo : Con := ([.inl (-2147483648, 2147483647), .inl (-2147483648, 2147483647)], [], [(some (-1, 1), [])])
set_option maxRecDepth 100000 in
theorem s_X12_acrossTo {l : Launch} : conOk (MetP l 1 yX12_acrossTo cX12_acrossTo 2 (some .int) 0 0) C_X12_acrossTo := by
  intro τ hΦ as h ha hh
  refine m_X12_acrossTo  (by rw [all2_len ha]; exact Nat.le_of_ble_eq_true rfl) ?_
  · exact run0 (τ := τ) (P := P_X12_acrossTo) (CE := []) (CS := [C_X12_sign]) (Ms := [MetP l 0 yX12_sign cX12_sign 1 (some .int) 0 0]) (GS := []) (Mg := []) (T := ((C_X12_acrossTo.1.map some ++ List.replicate (2 - 2) none, [], C_X12_acrossTo.2.1) : Tg)) (sl := [(0, 0), (0, 1)]) (q := 11) (x := 0) (L := enL as 2) (st := []) (h := h) hΦ (fun j C e => match j, e with | 0, e => (by cases e; exact s_X12_sign) | _ + 1, e => (by cases e)) (fun j g e => match j, e with | _ + 0, e => (by cases e)) (RS := C_X12_acrossTo.2.2) (Rv := (fun r h' => ∃ q, q ∈ C_X12_acrossTo.2.2 ∧ gR q.1 r ∧ all2 (gC ρ0 τ) q.2 h')) (GR := none) (M := (0, [])) (fun r h' q hq h1 h2 _ => ⟨q, hq, h1, h2⟩) ⟨door ha, trivial, hh⟩ (by decide +kernel)

def P_X12_acrossTo_z : List Nd := [(1, [], [1, 1]), (0, [24], [2]), (9, [], [3]), (1, [], [4, 0]), (0, [24], [5]), (9, [], [6]), (6, [], [7, 1]), (26, [], [8, 0, 0, 1]), (24, [], [])]
def C_X12_acrossTo_z : Con := ([.inl (0, 0), .inl (0, 383)], [], [(some (0, 1), [])])
set_option maxRecDepth 100000 in
theorem s_X12_acrossTo_z {l : Launch} : conOk (MetP l 1 yX12_acrossTo cX12_acrossTo 2 (some .int) 0 0) C_X12_acrossTo_z := by
  intro τ hΦ as h ha hh
  refine m_X12_acrossTo  (by rw [all2_len ha]; exact Nat.le_of_ble_eq_true rfl) ?_
  · exact run0 (τ := τ) (P := P_X12_acrossTo_z) (CE := []) (CS := [C_X12_sign_p]) (Ms := [MetP l 0 yX12_sign cX12_sign 1 (some .int) 0 0]) (GS := []) (Mg := []) (T := ((C_X12_acrossTo_z.1.map some ++ List.replicate (2 - 2) none, [], C_X12_acrossTo_z.2.1) : Tg)) (sl := [(0, 0), (0, 1)]) (q := 11) (x := 0) (L := enL as 2) (st := []) (h := h) hΦ (fun j C e => match j, e with | 0, e => (by cases e; exact s_X12_sign_p) | _ + 1, e => (by cases e)) (fun j g e => match j, e with | _ + 0, e => (by cases e)) (RS := C_X12_acrossTo_z.2.2) (Rv := (fun r h' => ∃ q, q ∈ C_X12_acrossTo_z.2.2 ∧ gR q.1 r ∧ all2 (gC ρ0 τ) q.2 h')) (GR := none) (M := (0, [])) (fun r h' q hq h1 h2 _ => ⟨q, hq, h1, h2⟩) ⟨door ha, trivial, hh⟩ (by decide +kernel)

def P_X12_acrossTo_e : List Nd := [(1, [], [1, 1]), (0, [24], [2]), (9, [], [3]), (1, [], [4, 0]), (0, [24], [5]), (9, [], [6]), (6, [], [7, 1]), (26, [], [8, 0, 0, 1]), (24, [], [])]
def C_X12_acrossTo_e : Con := ([.inl (383, 383), .inl (0, 383)], [], [(some (-1, 0), [])])
set_option maxRecDepth 100000 in
theorem s_X12_acrossTo_e {l : Launch} : conOk (MetP l 1 yX12_acrossTo cX12_acrossTo 2 (some .int) 0 0) C_X12_acrossTo_e := by
  intro τ hΦ as h ha hh
  refine m_X12_acrossTo  (by rw [all2_len ha]; exact Nat.le_of_ble_eq_true rfl) ?_
  · exact run0 (τ := τ) (P := P_X12_acrossTo_e) (CE := []) (CS := [C_X12_sign_n]) (Ms := [MetP l 0 yX12_sign cX12_sign 1 (some .int) 0 0]) (GS := []) (Mg := []) (T := ((C_X12_acrossTo_e.1.map some ++ List.replicate (2 - 2) none, [], C_X12_acrossTo_e.2.1) : Tg)) (sl := [(0, 0), (0, 1)]) (q := 11) (x := 0) (L := enL as 2) (st := []) (h := h) hΦ (fun j C e => match j, e with | 0, e => (by cases e; exact s_X12_sign_n) | _ + 1, e => (by cases e)) (fun j g e => match j, e with | _ + 0, e => (by cases e)) (RS := C_X12_acrossTo_e.2.2) (Rv := (fun r h' => ∃ q, q ∈ C_X12_acrossTo_e.2.2 ∧ gR q.1 r ∧ all2 (gC ρ0 τ) q.2 h')) (GR := none) (M := (0, [])) (fun r h' q hq h1 h2 _ => ⟨q, hq, h1, h2⟩) ⟨door ha, trivial, hh⟩ (by decide +kernel)

def P_X12_in : List Nd := [(1, [], [1, 0]), (1, [], [2, 1]), (11, [], [7, 3, 1]), (1, [], [4, 0]), (1, [], [5, 2]), (11, [], [7, 6, 3]), (0, [1], [8]), (0, [0], [8]), (25, [], [])]
def C_X12_in : Con := ([.inl (-2147483648, 2147483647), .inl (-2147483648, 2147483647), .inl (-2147483648, 2147483647)], [], [(some (0, 1), [])])
set_option maxRecDepth 100000 in
theorem s_X12_in {l : Launch} : conOk (MetP l 0 yX12_in cX12_in 3 (some .boolean) 0 0) C_X12_in := by
  intro τ hΦ as h ha hh
  refine m_X12_in  (by rw [all2_len ha]; exact Nat.le_of_ble_eq_true rfl) ?_
  · exact run0 (τ := τ) (P := P_X12_in) (CE := []) (CS := []) (Ms := []) (GS := []) (Mg := []) (T := ((C_X12_in.1.map some ++ List.replicate (3 - 3) none, [], C_X12_in.2.1) : Tg)) (sl := [(0, 0), (0, 1), (0, 2)]) (q := 11) (x := 0) (L := enL as 3) (st := []) (h := h) hΦ (fun j C e => match j, e with | _ + 0, e => (by cases e)) (fun j g e => match j, e with | _ + 0, e => (by cases e)) (RS := C_X12_in.2.2) (Rv := (fun r h' => ∃ q, q ∈ C_X12_in.2.2 ∧ gR q.1 r ∧ all2 (gC ρ0 τ) q.2 h')) (GR := none) (M := (0, [])) (fun r h' q hq h1 h2 _ => ⟨q, hq, h1, h2⟩) ⟨door ha, trivial, hh⟩ (by decide +kernel)

def P_X12_isTold : List Nd := [(1, [], [1, 1]), (0, [0], [2]), (0, [7], [3]), (31, [], [14, 5, 0, 0, 3]), (10, [], [14, 5, 0]), (2, [], [6, 0]), (18, [], [7, 0, 11]), (0, [0], [8]), (1, [], [9, 1]), (6, [], [10, 0]), (20, [], [11, 0]), (0, [1], [12]), (11, [], [13, 14, 0]), (0, [1], [15]), (0, [0], [15]), (25, [], [])]
def C_X12_isTold : Con := ([.inr (.inr (some (.inl 0))), .inl (-2147483648, 2147483647)], hc_348ac27518, [(some (0, 1), hc_348ac27518)])
def G_X12_isTold : GCn := ([.inr (.inr (some (.inl 0))), .inl (-2147483648, 2147483647)], hc_348ac27518, some (0, 1), hc_348ac27518)
set_option maxRecDepth 100000 in
theorem s_X12_isTold {l : Launch} : conOk (MetP l 1 yX12_isTold cX12_isTold 2 (some .boolean) 0 0) C_X12_isTold := by
  intro τ hΦ as h ha hh
  refine m_X12_isTold  (by rw [all2_len ha]; exact Nat.le_of_ble_eq_true rfl) ?_
  · exact run0 (τ := τ) (P := P_X12_isTold) (CE := []) (CS := []) (Ms := []) (GS := [(([topA, .inl (0, 2147483647), .inl (-2147483648, 7)], [], some (0, 1), []), 0, 0, 7)]) (Mg := [MetP l 0 yX12_in cX12_in 3 (some .boolean) 0 0]) (T := ((C_X12_isTold.1.map some ++ List.replicate (2 - 2) none, [], C_X12_isTold.2.1) : Tg)) (sl := [(0, 1)]) (q := 18) (x := 0) (L := enL as 2) (st := []) (h := h) hΦ (fun j C e => match j, e with | _ + 0, e => (by cases e)) (fun j g e => match j, e with | 0, e => (by cases e; exact gd_in (0) (7)) | _ + 1, e => (by cases e)) (RS := C_X12_isTold.2.2) (Rv := (fun r h' => ∃ q, q ∈ C_X12_isTold.2.2 ∧ gR q.1 r ∧ all2 (gC ρ0 τ) q.2 h')) (GR := none) (M := (0, [])) (fun r h' q hq h1 h2 _ => ⟨q, hq, h1, h2⟩) ⟨door ha, trivial, hh⟩ (by decide +kernel)

set_option maxRecDepth 100000 in
theorem gd_X12_isTold {l : Launch} : gconOk (MetP l 1 yX12_isTold cX12_isTold 2 (some .boolean) 0 0) G_X12_isTold 1 0 7 := by
  intro τ hΦ as h ha hh
  refine m_X12_isTold (by rw [all2_len ha]; exact Nat.le_of_ble_eq_true rfl) ?_
  refine run0 (τ := τ) (P := P_X12_isTold) (CE := []) (CS := []) (Ms := []) (GS := [(([topA, .inl (0, 2147483647), .inl (-2147483648, 7)], [], some (0, 1), []), 0, 0, 7)]) (Mg := [MetP l 0 yX12_in cX12_in 3 (some .boolean) 0 0]) (T := ((C_X12_isTold.1.map some ++ List.replicate (2 - 2) none, [], C_X12_isTold.2.1) : Tg)) (sl := [(0, 1)]) (q := 18) (x := 0) (L := enL as 2) (st := []) (h := h) (RS := C_X12_isTold.2.2) (Rv := (fun r h' => (∃ x : Int32, r = some (.inl x) ∧ 0 ≤ x.toInt) ∧ all2 (gC ρ0 τ) G_X12_isTold.2.2.2 h' ∧ ∀ (x v : Int32), r = some (.inl x) → ¬ x = 0 → nth as 1 = some (.inl v) → 0 ≤ v.toInt ∧ v.toInt ≤ 7)) (GR := some (0, 7)) (M := (0, [(1, 0, 1)])) hΦ (fun j C e => match j, e with | _ + 0, e => (by cases e)) (fun j g e => match j, e with | 0, e => (by cases e; exact gd_in (0) (7)) | _ + 1, e => (by cases e)) (fun r h' q hq h1 h2 h3 => ?_) ⟨door ha, trivial, hh⟩ (by decide +kernel)
  cases List.mem_singleton.mp hq
  have h1 : ∃ x : Int32, r = some (.inl x) ∧ 0 ≤ x.toInt ∧ x.toInt ≤ 1 := h1
  refine ⟨h1.elim fun x hx => ⟨x, hx.1, hx.2.1⟩, h2, fun x v e hx hv => ?_⟩
  have q := h3 _ rfl x e hx
  have e2 : slotV (enL as 2) h 0 1 = v.toInt := slot_door hv
  have e3 : (0 : Int) + meV (enL as 2) h [(1, 0, 1)] = v.toInt := by
    show (0 : Int) + (1 * slotV (enL as 2) h 0 1 + 0) = _
    rw [e2]; omega
  rw [e3] at q
  exact q
def P_X12_alongTo : List Nd := [(1, [], [1, 1]), (0, [24], [2]), (8, [], [3]), (1, [], [4, 0]), (0, [24], [5]), (8, [], [6]), (6, [], [7, 1]), (26, [], [8, 0, 0, 1]), (24, [], [])]
def C_X12_alongTo : Con := ([.inl (-2147483648, 2147483647), .inl (-2147483648, 2147483647)], [], [(some (-1, 1), [])])
set_option maxRecDepth 100000 in
theorem s_X12_alongTo {l : Launch} : conOk (MetP l 1 yX12_alongTo cX12_alongTo 2 (some .int) 0 0) C_X12_alongTo := by
  intro τ hΦ as h ha hh
  refine m_X12_alongTo  (by rw [all2_len ha]; exact Nat.le_of_ble_eq_true rfl) ?_
  · exact run0 (τ := τ) (P := P_X12_alongTo) (CE := []) (CS := [C_X12_sign]) (Ms := [MetP l 0 yX12_sign cX12_sign 1 (some .int) 0 0]) (GS := []) (Mg := []) (T := ((C_X12_alongTo.1.map some ++ List.replicate (2 - 2) none, [], C_X12_alongTo.2.1) : Tg)) (sl := [(0, 0), (0, 1)]) (q := 11) (x := 0) (L := enL as 2) (st := []) (h := h) hΦ (fun j C e => match j, e with | 0, e => (by cases e; exact s_X12_sign) | _ + 1, e => (by cases e)) (fun j g e => match j, e with | _ + 0, e => (by cases e)) (RS := C_X12_alongTo.2.2) (Rv := (fun r h' => ∃ q, q ∈ C_X12_alongTo.2.2 ∧ gR q.1 r ∧ all2 (gC ρ0 τ) q.2 h')) (GR := none) (M := (0, [])) (fun r h' q hq h1 h2 _ => ⟨q, hq, h1, h2⟩) ⟨door ha, trivial, hh⟩ (by decide +kernel)

def P_X12_alongTo_z : List Nd := [(1, [], [1, 1]), (0, [24], [2]), (8, [], [3]), (1, [], [4, 0]), (0, [24], [5]), (8, [], [6]), (6, [], [7, 1]), (26, [], [8, 0, 0, 1]), (24, [], [])]
def C_X12_alongTo_z : Con := ([.inl (0, 23), .inl (0, 383)], [], [(some (0, 1), [])])
set_option maxRecDepth 100000 in
theorem s_X12_alongTo_z {l : Launch} : conOk (MetP l 1 yX12_alongTo cX12_alongTo 2 (some .int) 0 0) C_X12_alongTo_z := by
  intro τ hΦ as h ha hh
  refine m_X12_alongTo  (by rw [all2_len ha]; exact Nat.le_of_ble_eq_true rfl) ?_
  · exact run0 (τ := τ) (P := P_X12_alongTo_z) (CE := []) (CS := [C_X12_sign_p]) (Ms := [MetP l 0 yX12_sign cX12_sign 1 (some .int) 0 0]) (GS := []) (Mg := []) (T := ((C_X12_alongTo_z.1.map some ++ List.replicate (2 - 2) none, [], C_X12_alongTo_z.2.1) : Tg)) (sl := [(0, 0), (0, 1)]) (q := 11) (x := 0) (L := enL as 2) (st := []) (h := h) hΦ (fun j C e => match j, e with | 0, e => (by cases e; exact s_X12_sign_p) | _ + 1, e => (by cases e)) (fun j g e => match j, e with | _ + 0, e => (by cases e)) (RS := C_X12_alongTo_z.2.2) (Rv := (fun r h' => ∃ q, q ∈ C_X12_alongTo_z.2.2 ∧ gR q.1 r ∧ all2 (gC ρ0 τ) q.2 h')) (GR := none) (M := (0, [])) (fun r h' q hq h1 h2 _ => ⟨q, hq, h1, h2⟩) ⟨door ha, trivial, hh⟩ (by decide +kernel)

def P_X12_alongTo_e : List Nd := [(1, [], [1, 1]), (0, [24], [2]), (8, [], [3]), (1, [], [4, 0]), (0, [24], [5]), (8, [], [6]), (6, [], [7, 1]), (26, [], [8, 0, 0, 1]), (24, [], [])]
def C_X12_alongTo_e : Con := ([.inl (360, 383), .inl (0, 383)], [], [(some (-1, 0), [])])
set_option maxRecDepth 100000 in
theorem s_X12_alongTo_e {l : Launch} : conOk (MetP l 1 yX12_alongTo cX12_alongTo 2 (some .int) 0 0) C_X12_alongTo_e := by
  intro τ hΦ as h ha hh
  refine m_X12_alongTo  (by rw [all2_len ha]; exact Nat.le_of_ble_eq_true rfl) ?_
  · exact run0 (τ := τ) (P := P_X12_alongTo_e) (CE := []) (CS := [C_X12_sign_n]) (Ms := [MetP l 0 yX12_sign cX12_sign 1 (some .int) 0 0]) (GS := []) (Mg := []) (T := ((C_X12_alongTo_e.1.map some ++ List.replicate (2 - 2) none, [], C_X12_alongTo_e.2.1) : Tg)) (sl := [(0, 0), (0, 1)]) (q := 11) (x := 0) (L := enL as 2) (st := []) (h := h) hΦ (fun j C e => match j, e with | 0, e => (by cases e; exact s_X12_sign_n) | _ + 1, e => (by cases e)) (fun j g e => match j, e with | _ + 0, e => (by cases e)) (RS := C_X12_alongTo_e.2.2) (Rv := (fun r h' => ∃ q, q ∈ C_X12_alongTo_e.2.2 ∧ gR q.1 r ∧ all2 (gC ρ0 τ) q.2 h')) (GR := none) (M := (0, [])) (fun r h' q hq h1 h2 _ => ⟨q, hq, h1, h2⟩) ⟨door ha, trivial, hh⟩ (by decide +kernel)

def P_X12_reckon_a : List Nd := [(1, [], [1, 0]), (12, [2], [2, 40]), (1, [], [3, 1]), (1, [], [4, 2]), (6, [], [5, 0]), (24, [], []), (1, [], [7, 1]), (1, [], [8, 2]), (6, [], [9, 1]), (24, [], []), (1, [], [11, 1]), (1, [], [12, 2]), (6, [], [13, 2]), (24, [], []), (1, [], [15, 1]), (1, [], [16, 2]), (8, [], [17]), (24, [], []), (1, [], [19, 1]), (1, [], [20, 2]), (9, [], [21]), (24, [], []), (1, [], [23, 1]), (1, [], [24, 2]), (11, [], [26, 25, 2]), (0, [1], [27]), (0, [0], [27]), (24, [], []), (1, [], [29, 1]), (1, [], [30, 2]), (11, [], [32, 31, 4]), (0, [1], [33]), (0, [0], [33]), (24, [], []), (1, [], [35, 1]), (1, [], [36, 2]), (11, [], [37, 38, 0]), (0, [1], [39]), (0, [0], [39]), (24, [], []), (12, [3], [6, 41]), (12, [4], [10, 42]), (12, [5], [14, 43]), (12, [6], [18, 44]), (12, [7], [22, 45]), (12, [8], [28, 46]), (13, [], [34])]
def C_X12_reckon_a : Con := ([.inl (5, 6), .inl (-2147483648, 2147483647), .inl (1, 2147483647)], [], [(some (-2147483648, 2147483647), [])])
set_option maxRecDepth 100000 in
theorem s_X12_reckon_a {l : Launch} : conOk (MetP l 0 yX12_reckon cX12_reckon 3 (some .int) 0 0) C_X12_reckon_a := by
  intro τ hΦ as h ha hh
  refine m_X12_reckon  (by rw [all2_len ha]; exact Nat.le_of_ble_eq_true rfl) ?_
  · exact run0 (τ := τ) (P := P_X12_reckon_a) (CE := []) (CS := []) (Ms := []) (GS := []) (Mg := []) (T := ((C_X12_reckon_a.1.map some ++ List.replicate (3 - 3) none, [], C_X12_reckon_a.2.1) : Tg)) (sl := [(0, 0), (0, 1), (0, 2)]) (q := 49) (x := 0) (L := enL as 3) (st := []) (h := h) hΦ (fun j C e => match j, e with | _ + 0, e => (by cases e)) (fun j g e => match j, e with | _ + 0, e => (by cases e)) (RS := C_X12_reckon_a.2.2) (Rv := (fun r h' => ∃ q, q ∈ C_X12_reckon_a.2.2 ∧ gR q.1 r ∧ all2 (gC ρ0 τ) q.2 h')) (GR := none) (M := (0, [])) (fun r h' q hq h1 h2 _ => ⟨q, hq, h1, h2⟩) ⟨door ha, trivial, hh⟩ (by decide +kernel)

def P_X12_reckon_b : List Nd := [(1, [], [1, 0]), (12, [2], [2, 40]), (1, [], [3, 1]), (1, [], [4, 2]), (6, [], [5, 0]), (24, [], []), (1, [], [7, 1]), (1, [], [8, 2]), (6, [], [9, 1]), (24, [], []), (1, [], [11, 1]), (1, [], [12, 2]), (6, [], [13, 2]), (24, [], []), (1, [], [15, 1]), (1, [], [16, 2]), (8, [], [17]), (24, [], []), (1, [], [19, 1]), (1, [], [20, 2]), (9, [], [21]), (24, [], []), (1, [], [23, 1]), (1, [], [24, 2]), (11, [], [26, 25, 2]), (0, [1], [27]), (0, [0], [27]), (24, [], []), (1, [], [29, 1]), (1, [], [30, 2]), (11, [], [32, 31, 4]), (0, [1], [33]), (0, [0], [33]), (24, [], []), (1, [], [35, 1]), (1, [], [36, 2]), (11, [], [37, 38, 0]), (0, [1], [39]), (0, [0], [39]), (24, [], []), (12, [3], [6, 41]), (12, [4], [10, 42]), (12, [5], [14, 43]), (12, [6], [18, 44]), (12, [7], [22, 45]), (12, [8], [28, 46]), (13, [], [34])]
def C_X12_reckon_b : Con := ([.inl (5, 6), .inl (-2147483648, 2147483647), .inl (-2147483648, -1)], [], [(some (-2147483648, 2147483647), [])])
set_option maxRecDepth 100000 in
theorem s_X12_reckon_b {l : Launch} : conOk (MetP l 0 yX12_reckon cX12_reckon 3 (some .int) 0 0) C_X12_reckon_b := by
  intro τ hΦ as h ha hh
  refine m_X12_reckon  (by rw [all2_len ha]; exact Nat.le_of_ble_eq_true rfl) ?_
  · exact run0 (τ := τ) (P := P_X12_reckon_b) (CE := []) (CS := []) (Ms := []) (GS := []) (Mg := []) (T := ((C_X12_reckon_b.1.map some ++ List.replicate (3 - 3) none, [], C_X12_reckon_b.2.1) : Tg)) (sl := [(0, 0), (0, 1), (0, 2)]) (q := 49) (x := 0) (L := enL as 3) (st := []) (h := h) hΦ (fun j C e => match j, e with | _ + 0, e => (by cases e)) (fun j g e => match j, e with | _ + 0, e => (by cases e)) (RS := C_X12_reckon_b.2.2) (Rv := (fun r h' => ∃ q, q ∈ C_X12_reckon_b.2.2 ∧ gR q.1 r ∧ all2 (gC ρ0 τ) q.2 h')) (GR := none) (M := (0, [])) (fun r h' q hq h1 h2 _ => ⟨q, hq, h1, h2⟩) ⟨door ha, trivial, hh⟩ (by decide +kernel)

def P_X12_reckon_c : List Nd := [(1, [], [1, 0]), (12, [2], [2, 40]), (1, [], [3, 1]), (1, [], [4, 2]), (6, [], [5, 0]), (24, [], []), (1, [], [7, 1]), (1, [], [8, 2]), (6, [], [9, 1]), (24, [], []), (1, [], [11, 1]), (1, [], [12, 2]), (6, [], [13, 2]), (24, [], []), (1, [], [15, 1]), (1, [], [16, 2]), (8, [], [17]), (24, [], []), (1, [], [19, 1]), (1, [], [20, 2]), (9, [], [21]), (24, [], []), (1, [], [23, 1]), (1, [], [24, 2]), (11, [], [26, 25, 2]), (0, [1], [27]), (0, [0], [27]), (24, [], []), (1, [], [29, 1]), (1, [], [30, 2]), (11, [], [32, 31, 4]), (0, [1], [33]), (0, [0], [33]), (24, [], []), (1, [], [35, 1]), (1, [], [36, 2]), (11, [], [37, 38, 0]), (0, [1], [39]), (0, [0], [39]), (24, [], []), (12, [3], [6, 41]), (12, [4], [10, 42]), (12, [5], [14, 43]), (12, [6], [18, 44]), (12, [7], [22, 45]), (12, [8], [28, 46]), (13, [], [34])]
def C_X12_reckon_c : Con := ([.inl (2, 4), .inl (-2147483648, 2147483647), .inl (-2147483648, 2147483647)], [], [(some (-2147483648, 2147483647), [])])
set_option maxRecDepth 100000 in
theorem s_X12_reckon_c {l : Launch} : conOk (MetP l 0 yX12_reckon cX12_reckon 3 (some .int) 0 0) C_X12_reckon_c := by
  intro τ hΦ as h ha hh
  refine m_X12_reckon  (by rw [all2_len ha]; exact Nat.le_of_ble_eq_true rfl) ?_
  · exact run0 (τ := τ) (P := P_X12_reckon_c) (CE := []) (CS := []) (Ms := []) (GS := []) (Mg := []) (T := ((C_X12_reckon_c.1.map some ++ List.replicate (3 - 3) none, [], C_X12_reckon_c.2.1) : Tg)) (sl := [(0, 0), (0, 1), (0, 2)]) (q := 49) (x := 0) (L := enL as 3) (st := []) (h := h) hΦ (fun j C e => match j, e with | _ + 0, e => (by cases e)) (fun j g e => match j, e with | _ + 0, e => (by cases e)) (RS := C_X12_reckon_c.2.2) (Rv := (fun r h' => ∃ q, q ∈ C_X12_reckon_c.2.2 ∧ gR q.1 r ∧ all2 (gC ρ0 τ) q.2 h')) (GR := none) (M := (0, [])) (fun r h' q hq h1 h2 _ => ⟨q, hq, h1, h2⟩) ⟨door ha, trivial, hh⟩ (by decide +kernel)

def P_X12_reckon_d : List Nd := [(1, [], [1, 0]), (12, [2], [2, 40]), (1, [], [3, 1]), (1, [], [4, 2]), (6, [], [5, 0]), (24, [], []), (1, [], [7, 1]), (1, [], [8, 2]), (6, [], [9, 1]), (24, [], []), (1, [], [11, 1]), (1, [], [12, 2]), (6, [], [13, 2]), (24, [], []), (1, [], [15, 1]), (1, [], [16, 2]), (8, [], [17]), (24, [], []), (1, [], [19, 1]), (1, [], [20, 2]), (9, [], [21]), (24, [], []), (1, [], [23, 1]), (1, [], [24, 2]), (11, [], [26, 25, 2]), (0, [1], [27]), (0, [0], [27]), (24, [], []), (1, [], [29, 1]), (1, [], [30, 2]), (11, [], [32, 31, 4]), (0, [1], [33]), (0, [0], [33]), (24, [], []), (1, [], [35, 1]), (1, [], [36, 2]), (11, [], [37, 38, 0]), (0, [1], [39]), (0, [0], [39]), (24, [], []), (12, [3], [6, 41]), (12, [4], [10, 42]), (12, [5], [14, 43]), (12, [6], [18, 44]), (12, [7], [22, 45]), (12, [8], [28, 46]), (13, [], [34])]
def C_X12_reckon_d : Con := ([.inl (7, 9), .inl (-2147483648, 2147483647), .inl (-2147483648, 2147483647)], [], [(some (-2147483648, 2147483647), [])])
set_option maxRecDepth 100000 in
theorem s_X12_reckon_d {l : Launch} : conOk (MetP l 0 yX12_reckon cX12_reckon 3 (some .int) 0 0) C_X12_reckon_d := by
  intro τ hΦ as h ha hh
  refine m_X12_reckon  (by rw [all2_len ha]; exact Nat.le_of_ble_eq_true rfl) ?_
  · exact run0 (τ := τ) (P := P_X12_reckon_d) (CE := []) (CS := []) (Ms := []) (GS := []) (Mg := []) (T := ((C_X12_reckon_d.1.map some ++ List.replicate (3 - 3) none, [], C_X12_reckon_d.2.1) : Tg)) (sl := [(0, 0), (0, 1), (0, 2)]) (q := 49) (x := 0) (L := enL as 3) (st := []) (h := h) hΦ (fun j C e => match j, e with | _ + 0, e => (by cases e)) (fun j g e => match j, e with | _ + 0, e => (by cases e)) (RS := C_X12_reckon_d.2.2) (Rv := (fun r h' => ∃ q, q ∈ C_X12_reckon_d.2.2 ∧ gR q.1 r ∧ all2 (gC ρ0 τ) q.2 h')) (GR := none) (M := (0, [])) (fun r h' q hq h1 h2 _ => ⟨q, hq, h1, h2⟩) ⟨door ha, trivial, hh⟩ (by decide +kernel)

def P_X12_size : List Nd := [(1, [], [1, 0]), (10, [], [4, 2, 2]), (1, [], [3, 0]), (7, [], [5, 0]), (1, [], [5, 0]), (24, [], [])]
def C_X12_size : Con := ([.inl (-2147483648, 2147483647)], [], [(some (-2147483648, 2147483647), [])])
set_option maxRecDepth 100000 in
theorem s_X12_size {l : Launch} : conOk (MetP l 0 yX12_size cX12_size 1 (some .int) 0 0) C_X12_size := by
  intro τ hΦ as h ha hh
  refine m_X12_size  (by rw [all2_len ha]; exact Nat.le_of_ble_eq_true rfl) ?_
  · exact run0 (τ := τ) (P := P_X12_size) (CE := []) (CS := []) (Ms := []) (GS := []) (Mg := []) (T := ((C_X12_size.1.map some ++ List.replicate (1 - 1) none, [], C_X12_size.2.1) : Tg)) (sl := [(0, 0)]) (q := 8) (x := 0) (L := enL as 1) (st := []) (h := h) hΦ (fun j C e => match j, e with | _ + 0, e => (by cases e)) (fun j g e => match j, e with | _ + 0, e => (by cases e)) (RS := C_X12_size.2.2) (Rv := (fun r h' => ∃ q, q ∈ C_X12_size.2.2 ∧ gR q.1 r ∧ all2 (gC ρ0 τ) q.2 h')) (GR := none) (M := (0, [])) (fun r h' q hq h1 h2 _ => ⟨q, hq, h1, h2⟩) ⟨door ha, trivial, hh⟩ (by decide +kernel)

def P_X12_isStamp : List Nd := [(1, [], [1, 1]), (0, [0], [2]), (2, [], [3, 0]), (18, [], [4, 8, 11]), (0, [1], [5]), (6, [], [6, 1]), (26, [], [7, 0, 0, 3]), (25, [], [])]
def C_X12_isStamp : Con := ([.inr (.inr (some (.inl 0))), .inl (-2147483648, 2147483647)], hc_a45da04a91, [(some (0, 1), hc_a45da04a91)])
set_option maxRecDepth 100000 in
theorem s_X12_isStamp {l : Launch} : conOk (MetP l 1 yX12_isStamp cX12_isStamp 2 (some .boolean) 0 0) C_X12_isStamp := by
  intro τ hΦ as h ha hh
  refine m_X12_isStamp  (by rw [all2_len ha]; exact Nat.le_of_ble_eq_true rfl) ?_
  · exact run0 (τ := τ) (P := P_X12_isStamp) (CE := []) (CS := [C_X12_in]) (Ms := [MetP l 0 yX12_in cX12_in 3 (some .boolean) 0 0]) (GS := []) (Mg := []) (T := ((C_X12_isStamp.1.map some ++ List.replicate (2 - 2) none, [], C_X12_isStamp.2.1) : Tg)) (sl := [(0, 1)]) (q := 10) (x := 0) (L := enL as 2) (st := []) (h := h) hΦ (fun j C e => match j, e with | 0, e => (by cases e; exact s_X12_in) | _ + 1, e => (by cases e)) (fun j g e => match j, e with | _ + 0, e => (by cases e)) (RS := C_X12_isStamp.2.2) (Rv := (fun r h' => ∃ q, q ∈ C_X12_isStamp.2.2 ∧ gR q.1 r ∧ all2 (gC ρ0 τ) q.2 h')) (GR := none) (M := (0, [])) (fun r h' q hq h1 h2 _ => ⟨q, hq, h1, h2⟩) ⟨door ha, trivial, hh⟩ (by decide +kernel)

def G_X12_isStamp : GCn := ([.inr (.inr (some (.inl 0))), .inl (-2147483648, 2147483647)], hc_a45da04a91, some (0, 1), hc_a45da04a91)
set_option maxRecDepth 100000 in
theorem c_X12_isStamp {l : Launch} {M_now M_aside M_kept M_mintAt M_mintOf M_wholeOf M_isWall M_wasWall M_tape M_said M_waitsAt M_saidLetter M_saidFrom M_saidHalf M_saidTo M_codes M_clauseOf M_codeFrom M_codeHalf M_codeTo M_stack M_facts M_newStamps M_roundFrom M_roundAt M_roundTimes M_usesNow M_wasAt M_someOf M_fewestFor M_getsOf : List (Option Nat)} {M_stampMany M_taped M_place0 M_length0 M_fault M_number0 M_open M_codeMany M_waiting M_saidMany M_clauses M_newMany M_rounds M_stampFrom M_stampTimes M_lines M_spot0 M_pullAcross M_pullAlong M_stepsNow M_fallenNow M_isKept : Int32}  {x : Int32} : MetP l 1 yX12_isStamp cX12_isStamp 2 (some .boolean) 0 0 [.inr (some (.inl 0)), .inl x] [.inr (11, [.inr (some (.inr M_now)), .inr (some (.inr M_aside)), .inr (some (.inr M_kept)), .inr (some (.inr M_mintAt)), .inr (some (.inr M_mintOf)), .inr (some (.inr M_wholeOf)), .inr (some (.inr M_isWall)), .inr (some (.inr M_wasWall)), .inl M_stampMany, .inr (some (.inr M_tape)), .inl M_taped, .inl M_place0, .inl M_length0, .inl M_fault, .inl M_number0, .inl M_open, .inl M_codeMany, .inl M_waiting, .inl M_saidMany, .inl M_clauses, .inr (some (.inr M_said)), .inr (some (.inr M_waitsAt)), .inr (some (.inr M_saidLetter)), .inr (some (.inr M_saidFrom)), .inr (some (.inr M_saidHalf)), .inr (some (.inr M_saidTo)), .inr (some (.inr M_codes)), .inr (some (.inr M_clauseOf)), .inr (some (.inr M_codeFrom)), .inr (some (.inr M_codeHalf)), .inr (some (.inr M_codeTo)), .inr (some (.inr M_stack)), .inr (some (.inr M_facts)), .inr (some (.inr M_newStamps)), .inr (some (.inr M_roundFrom)), .inr (some (.inr M_roundAt)), .inr (some (.inr M_roundTimes)), .inl M_newMany, .inl M_rounds, .inl M_stampFrom, .inl M_stampTimes, .inl M_lines, .inl M_spot0, .inl M_pullAcross, .inl M_pullAlong, .inl M_stepsNow, .inl M_fallenNow, .inr (some (.inr M_usesNow)), .inr (some (.inr M_wasAt)), .inr (some (.inr M_someOf)), .inr (some (.inr M_fewestFor)), .inr (some (.inr M_getsOf)), .inl M_isKept])] (fun r h' => r = some (.inl (bI (0 ≤ x ∧ x ≤ f_sub M_stampMany 1))) ∧ h' = [.inr (11, [.inr (some (.inr M_now)), .inr (some (.inr M_aside)), .inr (some (.inr M_kept)), .inr (some (.inr M_mintAt)), .inr (some (.inr M_mintOf)), .inr (some (.inr M_wholeOf)), .inr (some (.inr M_isWall)), .inr (some (.inr M_wasWall)), .inl M_stampMany, .inr (some (.inr M_tape)), .inl M_taped, .inl M_place0, .inl M_length0, .inl M_fault, .inl M_number0, .inl M_open, .inl M_codeMany, .inl M_waiting, .inl M_saidMany, .inl M_clauses, .inr (some (.inr M_said)), .inr (some (.inr M_waitsAt)), .inr (some (.inr M_saidLetter)), .inr (some (.inr M_saidFrom)), .inr (some (.inr M_saidHalf)), .inr (some (.inr M_saidTo)), .inr (some (.inr M_codes)), .inr (some (.inr M_clauseOf)), .inr (some (.inr M_codeFrom)), .inr (some (.inr M_codeHalf)), .inr (some (.inr M_codeTo)), .inr (some (.inr M_stack)), .inr (some (.inr M_facts)), .inr (some (.inr M_newStamps)), .inr (some (.inr M_roundFrom)), .inr (some (.inr M_roundAt)), .inr (some (.inr M_roundTimes)), .inl M_newMany, .inl M_rounds, .inl M_stampFrom, .inl M_stampTimes, .inl M_lines, .inl M_spot0, .inl M_pullAcross, .inl M_pullAlong, .inl M_stepsNow, .inl M_fallenNow, .inr (some (.inr M_usesNow)), .inr (some (.inr M_wasAt)), .inr (some (.inr M_someOf)), .inr (some (.inr M_fewestFor)), .inr (some (.inr M_getsOf)), .inl M_isKept])]) := by
  refine m_X12_isStamp (Nat.le_of_ble_eq_true rfl) ?_
  refine call0 (c_in) rfl rfl ?_
  rintro r h' ⟨rfl, rfl⟩
  exact And.intro bI_01 ⟨rfl, rfl⟩
theorem gd_X12_isStamp {l : Launch} : gconOk (MetP l 1 yX12_isStamp cX12_isStamp 2 (some .boolean) 0 0) G_X12_isStamp 1 0 47 := by
  intro τ hΦ as h ha hh
  have z := all2_cons ha
  clear ha
  obtain ⟨v0, as, rfl, q0, ha⟩ := z
  cases (q0 : v0 = .inr (some (.inl 0)))
  have z := all2_cons ha
  clear ha
  obtain ⟨v0, as, rfl, q0, ha⟩ := z
  obtain ⟨x, rfl, b_x⟩ := q0
  cases as with
  | cons _ _ => exact ha.elim
  | nil =>
    have z := all2_cons hh
    clear hh
    obtain ⟨e0, h, rfl, g0, hh⟩ := z
    rcases e0 with ⟨t0, n0, f0⟩ | ⟨ci, fs⟩
    · exact g0.elim
    obtain ⟨rfl, gf⟩ := g0
    have z := all2_cons gf
    clear gf
    obtain ⟨v0, fs, rfl, q0, gf⟩ := z
    cases gT_r (τ := τ) (t := 0) (v := v0) rfl q0
    have z := all2_cons gf
    clear gf
    obtain ⟨v0, fs, rfl, q0, gf⟩ := z
    cases gT_r (τ := τ) (t := 1) (v := v0) rfl q0
    have z := all2_cons gf
    clear gf
    obtain ⟨v0, fs, rfl, q0, gf⟩ := z
    cases gT_r (τ := τ) (t := 2) (v := v0) rfl q0
    have z := all2_cons gf
    clear gf
    obtain ⟨v0, fs, rfl, q0, gf⟩ := z
    cases gT_r (τ := τ) (t := 3) (v := v0) rfl q0
    have z := all2_cons gf
    clear gf
    obtain ⟨v0, fs, rfl, q0, gf⟩ := z
    cases gT_r (τ := τ) (t := 4) (v := v0) rfl q0
    have z := all2_cons gf
    clear gf
    obtain ⟨v0, fs, rfl, q0, gf⟩ := z
    cases gT_r (τ := τ) (t := 5) (v := v0) rfl q0
    have z := all2_cons gf
    clear gf
    obtain ⟨v0, fs, rfl, q0, gf⟩ := z
    cases gT_r (τ := τ) (t := 6) (v := v0) rfl q0
    have z := all2_cons gf
    clear gf
    obtain ⟨v0, fs, rfl, q0, gf⟩ := z
    cases gT_r (τ := τ) (t := 7) (v := v0) rfl q0
    have z := all2_cons gf
    clear gf
    obtain ⟨v0, fs, rfl, q0, gf⟩ := z
    obtain ⟨M_stampMany, rfl, b_stampMany⟩ := q0
    have z := all2_cons gf
    clear gf
    obtain ⟨v0, fs, rfl, q0, gf⟩ := z
    cases gT_r (τ := τ) (t := 8) (v := v0) rfl q0
    have z := all2_cons gf
    clear gf
    obtain ⟨v0, fs, rfl, q0, gf⟩ := z
    obtain ⟨M_taped, rfl, b_taped⟩ := q0
    have z := all2_cons gf
    clear gf
    obtain ⟨v0, fs, rfl, q0, gf⟩ := z
    obtain ⟨M_place0, rfl, b_place0⟩ := q0
    have z := all2_cons gf
    clear gf
    obtain ⟨v0, fs, rfl, q0, gf⟩ := z
    obtain ⟨M_length0, rfl, b_length0⟩ := q0
    have z := all2_cons gf
    clear gf
    obtain ⟨v0, fs, rfl, q0, gf⟩ := z
    obtain ⟨M_fault, rfl, b_fault⟩ := q0
    have z := all2_cons gf
    clear gf
    obtain ⟨v0, fs, rfl, q0, gf⟩ := z
    obtain ⟨M_number0, rfl, b_number0⟩ := q0
    have z := all2_cons gf
    clear gf
    obtain ⟨v0, fs, rfl, q0, gf⟩ := z
    obtain ⟨M_open, rfl, b_open⟩ := q0
    have z := all2_cons gf
    clear gf
    obtain ⟨v0, fs, rfl, q0, gf⟩ := z
    obtain ⟨M_codeMany, rfl, b_codeMany⟩ := q0
    have z := all2_cons gf
    clear gf
    obtain ⟨v0, fs, rfl, q0, gf⟩ := z
    obtain ⟨M_waiting, rfl, b_waiting⟩ := q0
    have z := all2_cons gf
    clear gf
    obtain ⟨v0, fs, rfl, q0, gf⟩ := z
    obtain ⟨M_saidMany, rfl, b_saidMany⟩ := q0
    have z := all2_cons gf
    clear gf
    obtain ⟨v0, fs, rfl, q0, gf⟩ := z
    cases gT_i (τ := τ) (t := 200) (v := v0) rfl q0
    have z := all2_cons gf
    clear gf
    obtain ⟨v0, fs, rfl, q0, gf⟩ := z
    cases gT_r (τ := τ) (t := 9) (v := v0) rfl q0
    have z := all2_cons gf
    clear gf
    obtain ⟨v0, fs, rfl, q0, gf⟩ := z
    cases gT_r (τ := τ) (t := 10) (v := v0) rfl q0
    have z := all2_cons gf
    clear gf
    obtain ⟨v0, fs, rfl, q0, gf⟩ := z
    cases gT_r (τ := τ) (t := 11) (v := v0) rfl q0
    have z := all2_cons gf
    clear gf
    obtain ⟨v0, fs, rfl, q0, gf⟩ := z
    cases gT_r (τ := τ) (t := 12) (v := v0) rfl q0
    have z := all2_cons gf
    clear gf
    obtain ⟨v0, fs, rfl, q0, gf⟩ := z
    cases gT_r (τ := τ) (t := 13) (v := v0) rfl q0
    have z := all2_cons gf
    clear gf
    obtain ⟨v0, fs, rfl, q0, gf⟩ := z
    cases gT_r (τ := τ) (t := 14) (v := v0) rfl q0
    have z := all2_cons gf
    clear gf
    obtain ⟨v0, fs, rfl, q0, gf⟩ := z
    cases gT_r (τ := τ) (t := 15) (v := v0) rfl q0
    have z := all2_cons gf
    clear gf
    obtain ⟨v0, fs, rfl, q0, gf⟩ := z
    cases gT_r (τ := τ) (t := 16) (v := v0) rfl q0
    have z := all2_cons gf
    clear gf
    obtain ⟨v0, fs, rfl, q0, gf⟩ := z
    cases gT_r (τ := τ) (t := 17) (v := v0) rfl q0
    have z := all2_cons gf
    clear gf
    obtain ⟨v0, fs, rfl, q0, gf⟩ := z
    cases gT_r (τ := τ) (t := 18) (v := v0) rfl q0
    have z := all2_cons gf
    clear gf
    obtain ⟨v0, fs, rfl, q0, gf⟩ := z
    cases gT_r (τ := τ) (t := 19) (v := v0) rfl q0
    have z := all2_cons gf
    clear gf
    obtain ⟨v0, fs, rfl, q0, gf⟩ := z
    cases gT_r (τ := τ) (t := 20) (v := v0) rfl q0
    have z := all2_cons gf
    clear gf
    obtain ⟨v0, fs, rfl, q0, gf⟩ := z
    cases gT_r (τ := τ) (t := 21) (v := v0) rfl q0
    have z := all2_cons gf
    clear gf
    obtain ⟨v0, fs, rfl, q0, gf⟩ := z
    cases gT_r (τ := τ) (t := 22) (v := v0) rfl q0
    have z := all2_cons gf
    clear gf
    obtain ⟨v0, fs, rfl, q0, gf⟩ := z
    cases gT_r (τ := τ) (t := 23) (v := v0) rfl q0
    have z := all2_cons gf
    clear gf
    obtain ⟨v0, fs, rfl, q0, gf⟩ := z
    cases gT_r (τ := τ) (t := 24) (v := v0) rfl q0
    have z := all2_cons gf
    clear gf
    obtain ⟨v0, fs, rfl, q0, gf⟩ := z
    cases gT_r (τ := τ) (t := 25) (v := v0) rfl q0
    have z := all2_cons gf
    clear gf
    obtain ⟨v0, fs, rfl, q0, gf⟩ := z
    obtain ⟨M_newMany, rfl, b_newMany⟩ := q0
    have z := all2_cons gf
    clear gf
    obtain ⟨v0, fs, rfl, q0, gf⟩ := z
    obtain ⟨M_rounds, rfl, b_rounds⟩ := q0
    have z := all2_cons gf
    clear gf
    obtain ⟨v0, fs, rfl, q0, gf⟩ := z
    obtain ⟨M_stampFrom, rfl, b_stampFrom⟩ := q0
    have z := all2_cons gf
    clear gf
    obtain ⟨v0, fs, rfl, q0, gf⟩ := z
    obtain ⟨M_stampTimes, rfl, b_stampTimes⟩ := q0
    have z := all2_cons gf
    clear gf
    obtain ⟨v0, fs, rfl, q0, gf⟩ := z
    obtain ⟨M_lines, rfl, b_lines⟩ := q0
    have z := all2_cons gf
    clear gf
    obtain ⟨v0, fs, rfl, q0, gf⟩ := z
    obtain ⟨M_spot0, rfl, b_spot0⟩ := q0
    have z := all2_cons gf
    clear gf
    obtain ⟨v0, fs, rfl, q0, gf⟩ := z
    obtain ⟨M_pullAcross, rfl, b_pullAcross⟩ := q0
    have z := all2_cons gf
    clear gf
    obtain ⟨v0, fs, rfl, q0, gf⟩ := z
    obtain ⟨M_pullAlong, rfl, b_pullAlong⟩ := q0
    have z := all2_cons gf
    clear gf
    obtain ⟨v0, fs, rfl, q0, gf⟩ := z
    obtain ⟨M_stepsNow, rfl, b_stepsNow⟩ := q0
    have z := all2_cons gf
    clear gf
    obtain ⟨v0, fs, rfl, q0, gf⟩ := z
    obtain ⟨M_fallenNow, rfl, b_fallenNow⟩ := q0
    have z := all2_cons gf
    clear gf
    obtain ⟨v0, fs, rfl, q0, gf⟩ := z
    cases gT_r (τ := τ) (t := 26) (v := v0) rfl q0
    have z := all2_cons gf
    clear gf
    obtain ⟨v0, fs, rfl, q0, gf⟩ := z
    cases gT_r (τ := τ) (t := 27) (v := v0) rfl q0
    have z := all2_cons gf
    clear gf
    obtain ⟨v0, fs, rfl, q0, gf⟩ := z
    cases gT_r (τ := τ) (t := 28) (v := v0) rfl q0
    have z := all2_cons gf
    clear gf
    obtain ⟨v0, fs, rfl, q0, gf⟩ := z
    cases gT_r (τ := τ) (t := 29) (v := v0) rfl q0
    have z := all2_cons gf
    clear gf
    obtain ⟨v0, fs, rfl, q0, gf⟩ := z
    cases gT_r (τ := τ) (t := 30) (v := v0) rfl q0
    have z := all2_cons gf
    clear gf
    obtain ⟨v0, fs, rfl, q0, gf⟩ := z
    obtain ⟨M_isKept, rfl, e_isKept, b_isKept⟩ := gT_x (τ := τ) (t := 201) (v := v0) rfl q0
    cases fs with
    | cons _ _ => exact gf.elim
    | nil =>
      cases h with
      | cons _ _ => exact hh.elim
      | nil =>
      refine c_X12_isStamp.mono (fun r h' hp => ?_)
      obtain ⟨rfl, rfl⟩ := hp
      refine ⟨⟨_, rfl, w2⟩, ⟨⟨rfl, rfl, rfl, rfl, rfl, rfl, rfl, rfl, rfl, ⟨_, rfl, b_stampMany⟩, rfl, ⟨_, rfl, b_taped⟩, ⟨_, rfl, b_place0⟩, ⟨_, rfl, b_length0⟩, ⟨_, rfl, b_fault⟩, ⟨_, rfl, b_number0⟩, ⟨_, rfl, b_open⟩, ⟨_, rfl, b_codeMany⟩, ⟨_, rfl, b_waiting⟩, ⟨_, rfl, b_saidMany⟩, gT_mk (t := 200) rfl rfl ⟨i32lo _, i32hi _⟩, rfl, rfl, rfl, rfl, rfl, rfl, rfl, rfl, rfl, rfl, rfl, rfl, rfl, rfl, rfl, rfl, rfl, ⟨_, rfl, b_newMany⟩, ⟨_, rfl, b_rounds⟩, ⟨_, rfl, b_stampFrom⟩, ⟨_, rfl, b_stampTimes⟩, ⟨_, rfl, b_lines⟩, ⟨_, rfl, b_spot0⟩, ⟨_, rfl, b_pullAcross⟩, ⟨_, rfl, b_pullAlong⟩, ⟨_, rfl, b_stepsNow⟩, ⟨_, rfl, b_fallenNow⟩, rfl, rfl, rfl, rfl, rfl, gT_mk rfl e_isKept b_isKept, trivial⟩, trivial⟩, fun x' v e hn ev => ?_⟩
      cases e
      cases ev
      have b_stampMany : 0 ≤ M_stampMany.toInt ∧ M_stampMany.toInt ≤ 48 := b_stampMany
      have hp : 0 ≤ x ∧ x ≤ f_sub M_stampMany 1 := Classical.byContradiction fun q => hn (bI_f q)
      have q1 := Int32.le_iff_toInt_le.mp hp.1
      have q2 := Int32.le_iff_toInt_le.mp hp.2
      have e0 : (0 : Int32).toInt = 0 := rfl
      have e1 : (f_sub M_stampMany 1).toInt = M_stampMany.toInt - 1 := by
        show (M_stampMany - 1).toInt = _
        rw [Int32.toInt_sub]
        exact bm (by have : (1 : Int32).toInt = 1 := rfl; omega) (by have : (1 : Int32).toInt = 1 := rfl; omega)
      exact ⟨by omega, by omega⟩

def P_X12_sticks : List Nd := [(2, [], [1, 0]), (1, [], [2, 1]), (31, [1, -1, -2, -3, -4, -5, -6, -7, -8, -9, -10, -11, -12, -13, -14, -15, -16, -17, -18, -19, -20, -21, -22, -23, -24, -25, -26, -27, -28, -29, -30], [13, 4, 0, 12, 2, 0]), (10, [], [13, 4, 0]), (2, [], [5, 0]), (18, [], [6, 0, 11]), (0, [32], [7]), (1, [], [8, 1]), (6, [], [9, 0]), (20, [], [10, 0]), (1, [], [11, 2]), (11, [], [12, 13, 0]), (0, [1], [14]), (0, [0], [14]), (25, [], [])]
def C_X12_sticks : Con := ([.inr (.inr (some (.inl 0))), .inl (-2147483648, 2147483647), .inl (-2147483648, 2147483647)], hc_348ac27518, [(some (0, 1), hc_348ac27518)])
set_option maxRecDepth 100000 in
theorem s_X12_sticks {l : Launch} : conOk (MetP l 2 yX12_sticks cX12_sticks 3 (some .boolean) 0 0) C_X12_sticks := by
  intro τ hΦ as h ha hh
  refine m_X12_sticks  (by rw [all2_len ha]; exact Nat.le_of_ble_eq_true rfl) ?_
  · exact run0 (τ := τ) (P := P_X12_sticks) (CE := []) (CS := []) (Ms := []) (GS := [(G_X12_isStamp, 1, 0, 47)]) (Mg := [MetP l 1 yX12_isStamp cX12_isStamp 2 (some .boolean) 0 0]) (T := ((C_X12_sticks.1.map some ++ List.replicate (3 - 3) none, [], C_X12_sticks.2.1) : Tg)) (sl := [(0, 1), (0, 2)]) (q := 17) (x := 0) (L := enL as 3) (st := []) (h := h) hΦ (fun j C e => match j, e with | _ + 0, e => (by cases e)) (fun j g e => match j, e with | 0, e => (by cases e; exact gd_X12_isStamp) | _ + 1, e => (by cases e)) (RS := C_X12_sticks.2.2) (Rv := (fun r h' => ∃ q, q ∈ C_X12_sticks.2.2 ∧ gR q.1 r ∧ all2 (gC ρ0 τ) q.2 h')) (GR := none) (M := (0, [])) (fun r h' q hq h1 h2 _ => ⟨q, hq, h1, h2⟩) ⟨door ha, trivial, hh⟩ (by decide +kernel)

def P_X12_stampsOn : List Nd := [(0, [0], [1]), (3, [], [2, 2]), (0, [0], [3]), (3, [], [19, 3]), (1, [], [5, 3]), (0, [48], [6]), (11, [], [17, 7, 2]), (2, [], [8, 0]), (1, [], [9, 3]), (1, [], [10, 1]), (26, [-1, -2, -3, -4, -5, -6, -7, -8, -9, -10, -11, -12, -13, -14, -15, -16, -17, -18, -19, -20, -21, -22, -23, -24, -25, -26, -27, -28, -29, -30], [11, 0, 12, 3, 0, 1]), (10, [], [16, 12, 0]), (1, [], [13, 2]), (0, [1], [14]), (6, [], [15, 0]), (3, [], [16, 2]), (5, [1], [19, 3]), (1, [], [18, 2]), (24, [], []), (27, [], [0])]
def C_X12_stampsOn : Con := ([.inr (.inr (some (.inl 0))), .inl (-2147483648, 2147483647)], hc_348ac27518, [(some (-2147483648, 2147483647), hc_348ac27518)])
def T_X12_stampsOn_4 : Tg × Me := (([some (.inr (.inr (some (.inl 0)))), some (.inl (-2147483648, 2147483647)), some (.inl (-2147483648, 2147483647)), some (.inl (0, 48))], [], hc_348ac27518), (49, [(-1, 0, 3)]))
set_option maxRecDepth 100000 in
theorem s_X12_stampsOn {l : Launch} : conOk (MetP l 3 yX12_stampsOn cX12_stampsOn 4 (some .int) 0 0) C_X12_stampsOn := by
  intro τ hΦ as h ha hh
  refine m_X12_stampsOn (Jc τ T_X12_stampsOn_4) (by rw [all2_len ha]; exact Nat.le_of_ble_eq_true rfl) ?_ ?_
  · exact run0 (τ := τ) (P := P_X12_stampsOn) (CE := [T_X12_stampsOn_4]) (CS := [C_X12_sticks]) (Ms := [MetP l 2 yX12_sticks cX12_sticks 3 (some .boolean) 0 0]) (GS := []) (Mg := []) (T := ((C_X12_stampsOn.1.map some ++ List.replicate (4 - 2) none, [], C_X12_stampsOn.2.1) : Tg)) (sl := [(0, 1)]) (q := 22) (x := 0) (L := enL as 4) (st := []) (h := h) hΦ (fun j C e => match j, e with | 0, e => (by cases e; exact s_X12_sticks) | _ + 1, e => (by cases e)) (fun j g e => match j, e with | _ + 0, e => (by cases e)) (RS := C_X12_stampsOn.2.2) (Rv := (fun r h' => ∃ q, q ∈ C_X12_stampsOn.2.2 ∧ gR q.1 r ∧ all2 (gC ρ0 τ) q.2 h')) (GR := none) (M := (0, [])) (fun r h' q hq h1 h2 _ => ⟨q, hq, h1, h2⟩) ⟨door ha, trivial, hh⟩ (by decide +kernel)
  · intro μ L st h hJ
    exact runL (τ := τ) (P := P_X12_stampsOn) (CE := [T_X12_stampsOn_4]) (CS := [C_X12_sticks]) (Ms := [MetP l 2 yX12_sticks cX12_sticks 3 (some .boolean) 0 0]) (GS := []) (Mg := []) (Q := T_X12_stampsOn_4) (sl := [(0, 1), (0, 2), (0, 3)]) (q := 22) (x := 4) hΦ (fun j C e => match j, e with | 0, e => (by cases e; exact s_X12_sticks) | _ + 1, e => (by cases e)) (fun j g e => match j, e with | _ + 0, e => (by cases e)) (RS := C_X12_stampsOn.2.2) (Rv := (fun r h' => ∃ q, q ∈ C_X12_stampsOn.2.2 ∧ gR q.1 r ∧ all2 (gC ρ0 τ) q.2 h')) (fun r h' q hq h1 h2 => ⟨q, hq, h1, h2⟩) hJ (by decide +kernel)

def P_X12_feels : List Nd := [(2, [], [1, 0]), (18, [], [2, 3, 11]), (2, [], [3, 0]), (18, [], [4, 4, 11]), (1, [], [5, 1]), (20, [], [6, 0]), (20, [], [7, 0]), (3, [], [8, 4]), (2, [], [9, 0]), (18, [], [10, 0, 11]), (0, [8], [11]), (1, [], [12, 2]), (6, [], [13, 0]), (20, [], [14, 0]), (3, [], [15, 5]), (2, [], [16, 0]), (18, [], [17, 32, 11]), (0, [0], [18]), (1, [], [19, 1]), (21, [], [20, 0]), (2, [], [21, 0]), (18, [], [22, 32, 11]), (0, [1], [23]), (2, [], [24, 0]), (18, [], [25, 4, 11]), (1, [], [26, 1]), (20, [], [27, 0]), (21, [], [28, 0]), (2, [], [29, 0]), (18, [], [30, 32, 11]), (0, [2], [31]), (2, [], [32, 0]), (18, [], [33, 5, 11]), (1, [], [34, 1]), (20, [], [35, 0]), (21, [], [36, 0]), (2, [], [37, 0]), (18, [], [38, 32, 11]), (0, [3], [39]), (2, [], [40, 0]), (18, [], [41, 0, 11]), (0, [80], [42]), (1, [], [43, 1]), (6, [], [44, 0]), (20, [], [45, 0]), (21, [], [46, 0]), (2, [], [47, 0]), (18, [], [48, 32, 11]), (0, [4], [49]), (1, [], [50, 4]), (0, [24], [51]), (9, [], [52]), (1, [], [53, 5]), (0, [24], [54]), (9, [], [55]), (6, [], [56, 1]), (26, [], [57, 0, 0, 1]), (1, [], [58, 4]), (0, [24], [59]), (8, [], [60]), (1, [], [61, 5]), (0, [24], [62]), (8, [], [63]), (6, [], [64, 1]), (26, [], [65, 0, 0, 1]), (6, [], [66, 0]), (21, [], [67, 0]), (2, [], [68, 0]), (18, [], [69, 32, 11]), (0, [5], [70]), (2, [], [71, 0]), (1, [], [72, 2]), (26, [-1, -2, 2, 3, 4, -3, -4, -5, -6, -7, -8, -9, -10, -11, -12, -13, -14, -15, -16, -17, 5, -18, -19, -20, -21, -22, -23, -24, -25, -26], [73, 1, 12, 2, 0, 1]), (21, [], [74, 0]), (2, [], [75, 0]), (18, [], [76, 32, 11]), (0, [6], [77]), (1, [], [78, 2]), (21, [], [79, 0]), (2, [], [80, 0]), (18, [], [81, 32, 11]), (0, [7], [82]), (2, [], [83, 0]), (18, [], [84, 0, 11]), (0, [128], [85]), (20, [], [86, 0]), (0, [100], [87]), (9, [], [88]), (21, [], [89, 0]), (2, [], [90, 0]), (18, [], [91, 32, 11]), (0, [8], [92]), (1, [], [93, 3]), (21, [], [94, 0]), (23, [], [])]
def C_X12_feels : Con := ([.inr (.inr (some (.inl 0))), .inl (0, 47), .inl (0, 7), .inl (-2147483648, 2147483647)], hc_e927317612, [(none, hc_e927317612)])
set_option maxRecDepth 100000 in
theorem s_X12_feels {l : Launch} : conOk (MetP l 4 yX12_feels cX12_feels 6 none 0 0) C_X12_feels := by
  intro τ hΦ as h ha hh
  refine m_X12_feels  (by rw [all2_len ha]; exact Nat.le_of_ble_eq_true rfl) ?_
  · exact run0 (τ := τ) (P := P_X12_feels) (CE := []) (CS := [C_X12_size, C_X12_stampsOn]) (Ms := [MetP l 0 yX12_size cX12_size 1 (some .int) 0 0, MetP l 3 yX12_stampsOn cX12_stampsOn 4 (some .int) 0 0]) (GS := []) (Mg := []) (T := ((C_X12_feels.1.map some ++ List.replicate (6 - 4) none, [], C_X12_feels.2.1) : Tg)) (sl := [(0, 1), (0, 2), (0, 3)]) (q := 97) (x := 0) (L := enL as 6) (st := []) (h := h) hΦ (fun j C e => match j, e with | 0, e => (by cases e; exact s_X12_size) | 1, e => (by cases e; exact s_X12_stampsOn) | _ + 2, e => (by cases e)) (fun j g e => match j, e with | _ + 0, e => (by cases e)) (RS := C_X12_feels.2.2) (Rv := (fun r h' => ∃ q, q ∈ C_X12_feels.2.2 ∧ gR q.1 r ∧ all2 (gC ρ0 τ) q.2 h')) (GR := none) (M := (0, [])) (fun r h' q hq h1 h2 _ => ⟨q, hq, h1, h2⟩) ⟨door ha, trivial, hh⟩ (by decide +kernel)

def P_X12_min : List Nd := [(1, [], [1, 0]), (1, [], [2, 1]), (11, [], [4, 3, 2]), (1, [], [5, 0]), (1, [], [5, 1]), (24, [], [])]
def C_X12_min : Con := ([.inl (-2147483648, 2147483647), .inl (-2147483648, 2147483647)], [], [(some (-2147483648, 2147483647), [])])
set_option maxRecDepth 100000 in
theorem s_X12_min {l : Launch} : conOk (MetP l 0 yX12_min cX12_min 2 (some .int) 0 0) C_X12_min := by
  intro τ hΦ as h ha hh
  refine m_X12_min  (by rw [all2_len ha]; exact Nat.le_of_ble_eq_true rfl) ?_
  · exact run0 (τ := τ) (P := P_X12_min) (CE := []) (CS := []) (Ms := []) (GS := []) (Mg := []) (T := ((C_X12_min.1.map some ++ List.replicate (2 - 2) none, [], C_X12_min.2.1) : Tg)) (sl := [(0, 0), (0, 1)]) (q := 8) (x := 0) (L := enL as 2) (st := []) (h := h) hΦ (fun j C e => match j, e with | _ + 0, e => (by cases e)) (fun j g e => match j, e with | _ + 0, e => (by cases e)) (RS := C_X12_min.2.2) (Rv := (fun r h' => ∃ q, q ∈ C_X12_min.2.2 ∧ gR q.1 r ∧ all2 (gC ρ0 τ) q.2 h')) (GR := none) (M := (0, [])) (fun r h' q hq h1 h2 _ => ⟨q, hq, h1, h2⟩) ⟨door ha, trivial, hh⟩ (by decide +kernel)

def P_X12_max : List Nd := [(1, [], [1, 0]), (1, [], [2, 1]), (11, [], [4, 3, 4]), (1, [], [5, 0]), (1, [], [5, 1]), (24, [], [])]
def C_X12_max : Con := ([.inl (-2147483648, 2147483647), .inl (-2147483648, 2147483647)], [], [(some (-2147483648, 2147483647), [])])
set_option maxRecDepth 100000 in
theorem s_X12_max {l : Launch} : conOk (MetP l 0 yX12_max cX12_max 2 (some .int) 0 0) C_X12_max := by
  intro τ hΦ as h ha hh
  refine m_X12_max  (by rw [all2_len ha]; exact Nat.le_of_ble_eq_true rfl) ?_
  · exact run0 (τ := τ) (P := P_X12_max) (CE := []) (CS := []) (Ms := []) (GS := []) (Mg := []) (T := ((C_X12_max.1.map some ++ List.replicate (2 - 2) none, [], C_X12_max.2.1) : Tg)) (sl := [(0, 0), (0, 1)]) (q := 8) (x := 0) (L := enL as 2) (st := []) (h := h) hΦ (fun j C e => match j, e with | _ + 0, e => (by cases e)) (fun j g e => match j, e with | _ + 0, e => (by cases e)) (RS := C_X12_max.2.2) (Rv := (fun r h' => ∃ q, q ∈ C_X12_max.2.2 ∧ gR q.1 r ∧ all2 (gC ρ0 τ) q.2 h')) (GR := none) (M := (0, [])) (fun r h' q hq h1 h2 _ => ⟨q, hq, h1, h2⟩) ⟨door ha, trivial, hh⟩ (by decide +kernel)

def P_X12_stepFrom : List Nd := [(1, [], [1, 1]), (26, [], [2, 0, 0, 1]), (1, [], [3, 2]), (26, [], [4, 0, 0, 1]), (26, [], [5, 1, 0, 2]), (1, [], [6, 3]), (11, [], [9, 7, 3]), (1, [], [8, 0]), (24, [], []), (1, [], [10, 1]), (26, [], [11, 0, 0, 1]), (1, [], [12, 2]), (26, [], [13, 0, 0, 1]), (11, [], [18, 14, 1]), (1, [], [15, 0]), (1, [], [16, 1]), (26, [], [17, 2, 0, 1]), (6, [], [24, 0]), (1, [], [19, 0]), (0, [24], [20]), (1, [], [21, 2]), (26, [], [22, 2, 0, 1]), (6, [], [23, 2]), (6, [], [24, 0]), (24, [], [])]
def C_X12_stepFrom : Con := ([.inl (-2147483648, 2147483647), .inl (-2147483648, 2147483647), .inl (-2147483648, 2147483647), .inl (-2147483648, 2147483647)], [], [(some (-2147483648, 2147483647), [])])
set_option maxRecDepth 100000 in
theorem s_X12_stepFrom {l : Launch} : conOk (MetP l 1 yX12_stepFrom cX12_stepFrom 4 (some .int) 0 0) C_X12_stepFrom := by
  intro τ hΦ as h ha hh
  refine m_X12_stepFrom  (by rw [all2_len ha]; exact Nat.le_of_ble_eq_true rfl) ?_
  · exact run0 (τ := τ) (P := P_X12_stepFrom) (CE := []) (CS := [C_X12_size, C_X12_max, C_X12_sign]) (Ms := [MetP l 0 yX12_size cX12_size 1 (some .int) 0 0, MetP l 0 yX12_max cX12_max 2 (some .int) 0 0, MetP l 0 yX12_sign cX12_sign 1 (some .int) 0 0]) (GS := []) (Mg := []) (T := ((C_X12_stepFrom.1.map some ++ List.replicate (4 - 4) none, [], C_X12_stepFrom.2.1) : Tg)) (sl := [(0, 0), (0, 1), (0, 2), (0, 3)]) (q := 27) (x := 0) (L := enL as 4) (st := []) (h := h) hΦ (fun j C e => match j, e with | 0, e => (by cases e; exact s_X12_size) | 1, e => (by cases e; exact s_X12_max) | 2, e => (by cases e; exact s_X12_sign) | _ + 3, e => (by cases e)) (fun j g e => match j, e with | _ + 0, e => (by cases e)) (RS := C_X12_stepFrom.2.2) (Rv := (fun r h' => ∃ q, q ∈ C_X12_stepFrom.2.2 ∧ gR q.1 r ∧ all2 (gC ρ0 τ) q.2 h')) (GR := none) (M := (0, [])) (fun r h' q hq h1 h2 _ => ⟨q, hq, h1, h2⟩) ⟨door ha, trivial, hh⟩ (by decide +kernel)

def P_X12_stepFrom_1 : List Nd := [(1, [], [1, 1]), (26, [], [2, 0, 0, 1]), (1, [], [3, 2]), (26, [], [4, 0, 0, 1]), (26, [], [5, 1, 0, 2]), (1, [], [6, 3]), (11, [], [9, 7, 3]), (1, [], [8, 0]), (24, [], []), (1, [], [10, 1]), (26, [], [11, 0, 0, 1]), (1, [], [12, 2]), (26, [], [13, 0, 0, 1]), (11, [], [18, 14, 1]), (1, [], [15, 0]), (1, [], [16, 1]), (26, [], [17, 2, 0, 1]), (6, [], [24, 0]), (1, [], [19, 0]), (0, [24], [20]), (1, [], [21, 2]), (26, [], [22, 2, 0, 1]), (6, [], [23, 2]), (6, [], [24, 0]), (24, [], [])]
def C_X12_stepFrom_1 : Con := ([.inl (0, 0), .inl (0, 4752), .inl (0, 4752), .inl (-2147483648, 2147483647)], [], [(some (0, 383), [])])
set_option maxRecDepth 100000 in
theorem s_X12_stepFrom_1 {l : Launch} : conOk (MetP l 1 yX12_stepFrom cX12_stepFrom 4 (some .int) 0 0) C_X12_stepFrom_1 := by
  intro τ hΦ as h ha hh
  refine m_X12_stepFrom  (by rw [all2_len ha]; exact Nat.le_of_ble_eq_true rfl) ?_
  · exact run0 (τ := τ) (P := P_X12_stepFrom_1) (CE := []) (CS := [C_X12_size, C_X12_max, C_X12_sign_p]) (Ms := [MetP l 0 yX12_size cX12_size 1 (some .int) 0 0, MetP l 0 yX12_max cX12_max 2 (some .int) 0 0, MetP l 0 yX12_sign cX12_sign 1 (some .int) 0 0]) (GS := []) (Mg := []) (T := ((C_X12_stepFrom_1.1.map some ++ List.replicate (4 - 4) none, [], C_X12_stepFrom_1.2.1) : Tg)) (sl := [(0, 0), (0, 1), (0, 2), (0, 3)]) (q := 27) (x := 0) (L := enL as 4) (st := []) (h := h) hΦ (fun j C e => match j, e with | 0, e => (by cases e; exact s_X12_size) | 1, e => (by cases e; exact s_X12_max) | 2, e => (by cases e; exact s_X12_sign_p) | _ + 3, e => (by cases e)) (fun j g e => match j, e with | _ + 0, e => (by cases e)) (RS := C_X12_stepFrom_1.2.2) (Rv := (fun r h' => ∃ q, q ∈ C_X12_stepFrom_1.2.2 ∧ gR q.1 r ∧ all2 (gC ρ0 τ) q.2 h')) (GR := none) (M := (0, [])) (fun r h' q hq h1 h2 _ => ⟨q, hq, h1, h2⟩) ⟨door ha, trivial, hh⟩ (by decide +kernel)

def P_X12_stepFrom_2 : List Nd := [(1, [], [1, 1]), (26, [], [2, 0, 0, 1]), (1, [], [3, 2]), (26, [], [4, 0, 0, 1]), (26, [], [5, 1, 0, 2]), (1, [], [6, 3]), (11, [], [9, 7, 3]), (1, [], [8, 0]), (24, [], []), (1, [], [10, 1]), (26, [], [11, 0, 0, 1]), (1, [], [12, 2]), (26, [], [13, 0, 0, 1]), (11, [], [18, 14, 1]), (1, [], [15, 0]), (1, [], [16, 1]), (26, [], [17, 2, 0, 1]), (6, [], [24, 0]), (1, [], [19, 0]), (0, [24], [20]), (1, [], [21, 2]), (26, [], [22, 3, 0, 1]), (6, [], [23, 2]), (6, [], [24, 0]), (24, [], [])]
def C_X12_stepFrom_2 : Con := ([.inl (1, 23), .inl (-4752, 4752), .inl (0, 4752), .inl (-2147483648, 2147483647)], [], [(some (0, 383), [])])
set_option maxRecDepth 100000 in
theorem s_X12_stepFrom_2 {l : Launch} : conOk (MetP l 1 yX12_stepFrom cX12_stepFrom 4 (some .int) 0 0) C_X12_stepFrom_2 := by
  intro τ hΦ as h ha hh
  refine m_X12_stepFrom  (by rw [all2_len ha]; exact Nat.le_of_ble_eq_true rfl) ?_
  · exact run0 (τ := τ) (P := P_X12_stepFrom_2) (CE := []) (CS := [C_X12_size, C_X12_max, C_X12_sign, C_X12_sign_p]) (Ms := [MetP l 0 yX12_size cX12_size 1 (some .int) 0 0, MetP l 0 yX12_max cX12_max 2 (some .int) 0 0, MetP l 0 yX12_sign cX12_sign 1 (some .int) 0 0, MetP l 0 yX12_sign cX12_sign 1 (some .int) 0 0]) (GS := []) (Mg := []) (T := ((C_X12_stepFrom_2.1.map some ++ List.replicate (4 - 4) none, [], C_X12_stepFrom_2.2.1) : Tg)) (sl := [(0, 0), (0, 1), (0, 2), (0, 3)]) (q := 27) (x := 0) (L := enL as 4) (st := []) (h := h) hΦ (fun j C e => match j, e with | 0, e => (by cases e; exact s_X12_size) | 1, e => (by cases e; exact s_X12_max) | 2, e => (by cases e; exact s_X12_sign) | 3, e => (by cases e; exact s_X12_sign_p) | _ + 4, e => (by cases e)) (fun j g e => match j, e with | _ + 0, e => (by cases e)) (RS := C_X12_stepFrom_2.2.2) (Rv := (fun r h' => ∃ q, q ∈ C_X12_stepFrom_2.2.2 ∧ gR q.1 r ∧ all2 (gC ρ0 τ) q.2 h')) (GR := none) (M := (0, [])) (fun r h' q hq h1 h2 _ => ⟨q, hq, h1, h2⟩) ⟨door ha, trivial, hh⟩ (by decide +kernel)

def P_X12_stepFrom_3 : List Nd := [(1, [], [1, 1]), (26, [], [2, 0, 0, 1]), (1, [], [3, 2]), (26, [], [4, 0, 0, 1]), (26, [], [5, 1, 0, 2]), (1, [], [6, 3]), (11, [], [9, 7, 3]), (1, [], [8, 0]), (24, [], []), (1, [], [10, 1]), (26, [], [11, 0, 0, 1]), (1, [], [12, 2]), (26, [], [13, 0, 0, 1]), (11, [], [18, 14, 1]), (1, [], [15, 0]), (1, [], [16, 1]), (26, [], [17, 2, 0, 1]), (6, [], [24, 0]), (1, [], [19, 0]), (0, [24], [20]), (1, [], [21, 2]), (26, [], [22, 2, 0, 1]), (6, [], [23, 2]), (6, [], [24, 0]), (24, [], [])]
def C_X12_stepFrom_3 : Con := ([.inl (24, 359), .inl (-4752, 4752), .inl (-4752, 4752), .inl (-2147483648, 2147483647)], [], [(some (0, 383), [])])
set_option maxRecDepth 100000 in
theorem s_X12_stepFrom_3 {l : Launch} : conOk (MetP l 1 yX12_stepFrom cX12_stepFrom 4 (some .int) 0 0) C_X12_stepFrom_3 := by
  intro τ hΦ as h ha hh
  refine m_X12_stepFrom  (by rw [all2_len ha]; exact Nat.le_of_ble_eq_true rfl) ?_
  · exact run0 (τ := τ) (P := P_X12_stepFrom_3) (CE := []) (CS := [C_X12_size, C_X12_max, C_X12_sign]) (Ms := [MetP l 0 yX12_size cX12_size 1 (some .int) 0 0, MetP l 0 yX12_max cX12_max 2 (some .int) 0 0, MetP l 0 yX12_sign cX12_sign 1 (some .int) 0 0]) (GS := []) (Mg := []) (T := ((C_X12_stepFrom_3.1.map some ++ List.replicate (4 - 4) none, [], C_X12_stepFrom_3.2.1) : Tg)) (sl := [(0, 0), (0, 1), (0, 2), (0, 3)]) (q := 27) (x := 0) (L := enL as 4) (st := []) (h := h) hΦ (fun j C e => match j, e with | 0, e => (by cases e; exact s_X12_size) | 1, e => (by cases e; exact s_X12_max) | 2, e => (by cases e; exact s_X12_sign) | _ + 3, e => (by cases e)) (fun j g e => match j, e with | _ + 0, e => (by cases e)) (RS := C_X12_stepFrom_3.2.2) (Rv := (fun r h' => ∃ q, q ∈ C_X12_stepFrom_3.2.2 ∧ gR q.1 r ∧ all2 (gC ρ0 τ) q.2 h')) (GR := none) (M := (0, [])) (fun r h' q hq h1 h2 _ => ⟨q, hq, h1, h2⟩) ⟨door ha, trivial, hh⟩ (by decide +kernel)

def P_X12_stepFrom_4 : List Nd := [(1, [], [1, 1]), (26, [], [2, 0, 0, 1]), (1, [], [3, 2]), (26, [], [4, 0, 0, 1]), (26, [], [5, 1, 0, 2]), (1, [], [6, 3]), (11, [], [9, 7, 3]), (1, [], [8, 0]), (24, [], []), (1, [], [10, 1]), (26, [], [11, 0, 0, 1]), (1, [], [12, 2]), (26, [], [13, 0, 0, 1]), (11, [], [18, 14, 1]), (1, [], [15, 0]), (1, [], [16, 1]), (26, [], [17, 2, 0, 1]), (6, [], [24, 0]), (1, [], [19, 0]), (0, [24], [20]), (1, [], [21, 2]), (26, [], [22, 3, 0, 1]), (6, [], [23, 2]), (6, [], [24, 0]), (24, [], [])]
def C_X12_stepFrom_4 : Con := ([.inl (360, 382), .inl (-4752, 4752), .inl (-4752, 0), .inl (-2147483648, 2147483647)], [], [(some (0, 383), [])])
set_option maxRecDepth 100000 in
theorem s_X12_stepFrom_4 {l : Launch} : conOk (MetP l 1 yX12_stepFrom cX12_stepFrom 4 (some .int) 0 0) C_X12_stepFrom_4 := by
  intro τ hΦ as h ha hh
  refine m_X12_stepFrom  (by rw [all2_len ha]; exact Nat.le_of_ble_eq_true rfl) ?_
  · exact run0 (τ := τ) (P := P_X12_stepFrom_4) (CE := []) (CS := [C_X12_size, C_X12_max, C_X12_sign, C_X12_sign_n]) (Ms := [MetP l 0 yX12_size cX12_size 1 (some .int) 0 0, MetP l 0 yX12_max cX12_max 2 (some .int) 0 0, MetP l 0 yX12_sign cX12_sign 1 (some .int) 0 0, MetP l 0 yX12_sign cX12_sign 1 (some .int) 0 0]) (GS := []) (Mg := []) (T := ((C_X12_stepFrom_4.1.map some ++ List.replicate (4 - 4) none, [], C_X12_stepFrom_4.2.1) : Tg)) (sl := [(0, 0), (0, 1), (0, 2), (0, 3)]) (q := 27) (x := 0) (L := enL as 4) (st := []) (h := h) hΦ (fun j C e => match j, e with | 0, e => (by cases e; exact s_X12_size) | 1, e => (by cases e; exact s_X12_max) | 2, e => (by cases e; exact s_X12_sign) | 3, e => (by cases e; exact s_X12_sign_n) | _ + 4, e => (by cases e)) (fun j g e => match j, e with | _ + 0, e => (by cases e)) (RS := C_X12_stepFrom_4.2.2) (Rv := (fun r h' => ∃ q, q ∈ C_X12_stepFrom_4.2.2 ∧ gR q.1 r ∧ all2 (gC ρ0 τ) q.2 h')) (GR := none) (M := (0, [])) (fun r h' q hq h1 h2 _ => ⟨q, hq, h1, h2⟩) ⟨door ha, trivial, hh⟩ (by decide +kernel)

def P_X12_stepFrom_5 : List Nd := [(1, [], [1, 1]), (26, [], [2, 0, 0, 1]), (1, [], [3, 2]), (26, [], [4, 0, 0, 1]), (26, [], [5, 1, 0, 2]), (1, [], [6, 3]), (11, [], [9, 7, 3]), (1, [], [8, 0]), (24, [], []), (1, [], [10, 1]), (26, [], [11, 0, 0, 1]), (1, [], [12, 2]), (26, [], [13, 0, 0, 1]), (11, [], [18, 14, 1]), (1, [], [15, 0]), (1, [], [16, 1]), (26, [], [17, 2, 0, 1]), (6, [], [24, 0]), (1, [], [19, 0]), (0, [24], [20]), (1, [], [21, 2]), (26, [], [22, 2, 0, 1]), (6, [], [23, 2]), (6, [], [24, 0]), (24, [], [])]
def C_X12_stepFrom_5 : Con := ([.inl (383, 383), .inl (-4752, 0), .inl (-4752, 0), .inl (-2147483648, 2147483647)], [], [(some (0, 383), [])])
set_option maxRecDepth 100000 in
theorem s_X12_stepFrom_5 {l : Launch} : conOk (MetP l 1 yX12_stepFrom cX12_stepFrom 4 (some .int) 0 0) C_X12_stepFrom_5 := by
  intro τ hΦ as h ha hh
  refine m_X12_stepFrom  (by rw [all2_len ha]; exact Nat.le_of_ble_eq_true rfl) ?_
  · exact run0 (τ := τ) (P := P_X12_stepFrom_5) (CE := []) (CS := [C_X12_size, C_X12_max, C_X12_sign_n]) (Ms := [MetP l 0 yX12_size cX12_size 1 (some .int) 0 0, MetP l 0 yX12_max cX12_max 2 (some .int) 0 0, MetP l 0 yX12_sign cX12_sign 1 (some .int) 0 0]) (GS := []) (Mg := []) (T := ((C_X12_stepFrom_5.1.map some ++ List.replicate (4 - 4) none, [], C_X12_stepFrom_5.2.1) : Tg)) (sl := [(0, 0), (0, 1), (0, 2), (0, 3)]) (q := 27) (x := 0) (L := enL as 4) (st := []) (h := h) hΦ (fun j C e => match j, e with | 0, e => (by cases e; exact s_X12_size) | 1, e => (by cases e; exact s_X12_max) | 2, e => (by cases e; exact s_X12_sign_n) | _ + 3, e => (by cases e)) (fun j g e => match j, e with | _ + 0, e => (by cases e)) (RS := C_X12_stepFrom_5.2.2) (Rv := (fun r h' => ∃ q, q ∈ C_X12_stepFrom_5.2.2 ∧ gR q.1 r ∧ all2 (gC ρ0 τ) q.2 h')) (GR := none) (M := (0, [])) (fun r h' q hq h1 h2 _ => ⟨q, hq, h1, h2⟩) ⟨door ha, trivial, hh⟩ (by decide +kernel)

def P_X12_has : List Nd := [(1, [], [1, 0]), (1, [], [2, 1]), (6, [], [3, 7]), (0, [1], [4]), (6, [], [5, 3]), (0, [1], [6]), (11, [], [7, 8, 0]), (0, [1], [9]), (0, [0], [9]), (25, [], [])]
def C_X12_has : Con := ([.inl (-2147483648, 2147483647), .inl (-2147483648, 2147483647)], [], [(some (0, 1), [])])
set_option maxRecDepth 100000 in
theorem s_X12_has {l : Launch} : conOk (MetP l 0 yX12_has cX12_has 2 (some .boolean) 0 0) C_X12_has := by
  intro τ hΦ as h ha hh
  refine m_X12_has  (by rw [all2_len ha]; exact Nat.le_of_ble_eq_true rfl) ?_
  · exact run0 (τ := τ) (P := P_X12_has) (CE := []) (CS := []) (Ms := []) (GS := []) (Mg := []) (T := ((C_X12_has.1.map some ++ List.replicate (2 - 2) none, [], C_X12_has.2.1) : Tg)) (sl := [(0, 0), (0, 1)]) (q := 12) (x := 0) (L := enL as 2) (st := []) (h := h) hΦ (fun j C e => match j, e with | _ + 0, e => (by cases e)) (fun j g e => match j, e with | _ + 0, e => (by cases e)) (RS := C_X12_has.2.2) (Rv := (fun r h' => ∃ q, q ∈ C_X12_has.2.2 ∧ gR q.1 r ∧ all2 (gC ρ0 τ) q.2 h')) (GR := none) (M := (0, [])) (fun r h' q hq h1 h2 _ => ⟨q, hq, h1, h2⟩) ⟨door ha, trivial, hh⟩ (by decide +kernel)

def P_X12_octet : List Nd := [(2, [], [1, 0]), (18, [], [2, 9, 11]), (1, [], [3, 1]), (20, [], [4, 1, 2]), (0, [255], [5]), (6, [], [6, 3]), (24, [], [])]
def C_X12_octet : Con := ([.inr (.inr (some (.inl 0))), .inl (0, 259)], hc_f6ee69c243, [(some (0, 255), hc_f6ee69c243)])
set_option maxRecDepth 100000 in
theorem s_X12_octet {l : Launch} : conOk (MetP l 0 yX12_octet cX12_octet 2 (some .int) 0 0) C_X12_octet := by
  intro τ hΦ as h ha hh
  refine m_X12_octet  (by rw [all2_len ha]; exact Nat.le_of_ble_eq_true rfl) ?_
  · exact run0 (τ := τ) (P := P_X12_octet) (CE := []) (CS := []) (Ms := []) (GS := []) (Mg := []) (T := ((C_X12_octet.1.map some ++ List.replicate (2 - 2) none, [], C_X12_octet.2.1) : Tg)) (sl := [(0, 1)]) (q := 9) (x := 0) (L := enL as 2) (st := []) (h := h) hΦ (fun j C e => match j, e with | _ + 0, e => (by cases e)) (fun j g e => match j, e with | _ + 0, e => (by cases e)) (RS := C_X12_octet.2.2) (Rv := (fun r h' => ∃ q, q ∈ C_X12_octet.2.2 ∧ gR q.1 r ∧ all2 (gC ρ0 τ) q.2 h')) (GR := none) (M := (0, [])) (fun r h' q hq h1 h2 _ => ⟨q, hq, h1, h2⟩) ⟨door ha, trivial, hh⟩ (by decide +kernel)

def P_X12_areRows : List Nd := [(0, [0], [1]), (3, [], [39, 2]), (1, [], [3, 2]), (1, [], [4, 1]), (11, [], [37, 5, 2]), (0, [0], [6]), (3, [], [7, 3]), (0, [0], [8]), (3, [], [40, 4]), (1, [], [10, 4]), (1, [], [11, 1]), (11, [], [36, 12, 2]), (2, [], [13, 0]), (1, [], [14, 1]), (1, [], [15, 2]), (6, [], [16, 2]), (1, [], [17, 4]), (6, [], [18, 0]), (26, [-1, -2, -3, -4, -5, -6, -7, -8, -9, -10, -11, -12, -13, -14, -15, -16, -17, -18, -19, -20, -21, -22, -23, -24, -25, -26, -27, -28, -29, -30], [19, 0, 12, 2, 0, 1]), (3, [], [20, 5]), (1, [], [21, 5]), (1, [], [22, 1]), (11, [], [27, 23, 2]), (1, [], [24, 3]), (1, [], [25, 5]), (26, [], [26, 1, 0, 2]), (10, [], [29, 27, 0]), (0, [0], [28]), (25, [], []), (1, [], [30, 3]), (0, [1], [31]), (1, [], [32, 5]), (6, [], [33, 6]), (6, [], [34, 4]), (3, [], [35, 3]), (5, [1], [40, 4]), (5, [1], [39, 2]), (0, [1], [38]), (25, [], []), (27, [], [0]), (27, [], [1])]
def C_X12_areRows : Con := ([.inr (.inr (some (.inl 0))), .inl (2, 6)], hc_f6ee69c243, [(some (0, 1), hc_f6ee69c243)])
def T_X12_areRows_2 : Tg × Me := (([some (.inr (.inr (some (.inl 0)))), some (.inl (2, 6)), some (.inl (0, 6)), none, none, none], [], hc_f6ee69c243), (63, [(-9, 0, 2)]))
def T_X12_areRows_12 : Tg × Me := (([some (.inr (.inr (some (.inl 0)))), some (.inl (2, 6)), some (.inl (0, 5)), some (.inl (-2147483648, 2147483647)), some (.inl (0, 6)), none], [], hc_f6ee69c243), (61, [(-1, 0, 4), (-9, 0, 2)]))
set_option maxRecDepth 100000 in
theorem s_X12_areRows {l : Launch} : conOk (MetP l 1 yX12_areRows cX12_areRows 6 (some .boolean) 0 0) C_X12_areRows := by
  intro τ hΦ as h ha hh
  refine m_X12_areRows (Jc τ T_X12_areRows_2) (Jc τ T_X12_areRows_12) (by rw [all2_len ha]; exact Nat.le_of_ble_eq_true rfl) ?_ ?_ ?_
  · exact run0 (τ := τ) (P := P_X12_areRows) (CE := [T_X12_areRows_2, T_X12_areRows_12]) (CS := [C_X12_octet, C_X12_has]) (Ms := [MetP l 0 yX12_octet cX12_octet 2 (some .int) 0 0, MetP l 0 yX12_has cX12_has 2 (some .boolean) 0 0]) (GS := []) (Mg := []) (T := ((C_X12_areRows.1.map some ++ List.replicate (6 - 2) none, [], C_X12_areRows.2.1) : Tg)) (sl := [(0, 1)]) (q := 43) (x := 0) (L := enL as 6) (st := []) (h := h) hΦ (fun j C e => match j, e with | 0, e => (by cases e; exact s_X12_octet) | 1, e => (by cases e; exact s_X12_has) | _ + 2, e => (by cases e)) (fun j g e => match j, e with | _ + 0, e => (by cases e)) (RS := C_X12_areRows.2.2) (Rv := (fun r h' => ∃ q, q ∈ C_X12_areRows.2.2 ∧ gR q.1 r ∧ all2 (gC ρ0 τ) q.2 h')) (GR := none) (M := (0, [])) (fun r h' q hq h1 h2 _ => ⟨q, hq, h1, h2⟩) ⟨door ha, trivial, hh⟩ (by decide +kernel)
  · intro μ L st h hJ
    exact runL (τ := τ) (P := P_X12_areRows) (CE := [T_X12_areRows_2, T_X12_areRows_12]) (CS := [C_X12_octet, C_X12_has]) (Ms := [MetP l 0 yX12_octet cX12_octet 2 (some .int) 0 0, MetP l 0 yX12_has cX12_has 2 (some .boolean) 0 0]) (GS := []) (Mg := []) (Q := T_X12_areRows_2) (sl := [(0, 1), (0, 2)]) (q := 43) (x := 2) hΦ (fun j C e => match j, e with | 0, e => (by cases e; exact s_X12_octet) | 1, e => (by cases e; exact s_X12_has) | _ + 2, e => (by cases e)) (fun j g e => match j, e with | _ + 0, e => (by cases e)) (RS := C_X12_areRows.2.2) (Rv := (fun r h' => ∃ q, q ∈ C_X12_areRows.2.2 ∧ gR q.1 r ∧ all2 (gC ρ0 τ) q.2 h')) (fun r h' q hq h1 h2 => ⟨q, hq, h1, h2⟩) hJ (by decide +kernel)
  · intro μ L st h hJ
    exact runL (τ := τ) (P := P_X12_areRows) (CE := [T_X12_areRows_2, T_X12_areRows_12]) (CS := [C_X12_octet, C_X12_has]) (Ms := [MetP l 0 yX12_octet cX12_octet 2 (some .int) 0 0, MetP l 0 yX12_has cX12_has 2 (some .boolean) 0 0]) (GS := []) (Mg := []) (Q := T_X12_areRows_12) (sl := [(0, 1), (0, 2), (0, 3), (0, 4)]) (q := 43) (x := 9) hΦ (fun j C e => match j, e with | 0, e => (by cases e; exact s_X12_octet) | 1, e => (by cases e; exact s_X12_has) | _ + 2, e => (by cases e)) (fun j g e => match j, e with | _ + 0, e => (by cases e)) (RS := C_X12_areRows.2.2) (Rv := (fun r h' => ∃ q, q ∈ C_X12_areRows.2.2 ∧ gR q.1 r ∧ all2 (gC ρ0 τ) q.2 h')) (fun r h' q hq h1 h2 => ⟨q, hq, h1, h2⟩) hJ (by decide +kernel)

def P_X12_beginsText : List Nd := [(2, [], [1, 0]), (0, [0], [2]), (19, [], [3, 11, 0, 11]), (2, [], [4, 0]), (1, [], [5, 1]), (19, [], [6, 12, 0, 11]), (2, [], [7, 0]), (0, [0], [8]), (19, [], [9, 16, 0, 11]), (2, [], [10, 0]), (0, [0], [11]), (19, [], [12, 18, 0, 11]), (23, [], [])]
def C_X12_beginsText : Con := ([.inr (.inr (some (.inl 0))), .inl (1, 240)], hc_a45da04a91, [(none, hc_a45da04a91)])
set_option maxRecDepth 100000 in
theorem s_X12_beginsText {l : Launch} : conOk (MetP l 0 yX12_beginsText cX12_beginsText 2 none 0 0) C_X12_beginsText := by
  intro τ hΦ as h ha hh
  refine m_X12_beginsText  (by rw [all2_len ha]; exact Nat.le_of_ble_eq_true rfl) ?_
  · exact run0 (τ := τ) (P := P_X12_beginsText) (CE := []) (CS := []) (Ms := []) (GS := []) (Mg := []) (T := ((C_X12_beginsText.1.map some ++ List.replicate (2 - 2) none, [], C_X12_beginsText.2.1) : Tg)) (sl := [(0, 1)]) (q := 15) (x := 0) (L := enL as 2) (st := []) (h := h) hΦ (fun j C e => match j, e with | _ + 0, e => (by cases e)) (fun j g e => match j, e with | _ + 0, e => (by cases e)) (RS := C_X12_beginsText.2.2) (Rv := (fun r h' => ∃ q, q ∈ C_X12_beginsText.2.2 ∧ gR q.1 r ∧ all2 (gC ρ0 τ) q.2 h')) (GR := none) (M := (0, [])) (fun r h' q hq h1 h2 _ => ⟨q, hq, h1, h2⟩) ⟨door ha, trivial, hh⟩ (by decide +kernel)

def P_X12_bits : List Nd := [(0, [0], [1]), (3, [], [2, 1]), (0, [0], [3]), (3, [], [18, 2]), (1, [], [5, 2]), (0, [12], [6]), (11, [], [16, 7, 2]), (1, [], [8, 1]), (1, [], [9, 0]), (1, [], [10, 2]), (6, [], [11, 7]), (0, [1], [12]), (6, [], [13, 3]), (6, [], [14, 0]), (3, [], [15, 1]), (5, [1], [18, 2]), (1, [], [17, 1]), (24, [], []), (27, [], [0])]
def C_X12_bits : Con := ([.inl (-2147483648, 2147483647)], [], [(some (-2147483648, 2147483647), [])])
def T_X12_bits_4 : Tg × Me := (([some (.inl (-2147483648, 2147483647)), some (.inl (-2147483648, 2147483647)), some (.inl (0, 15))], [], []), (16, [(-1, 0, 2)]))
set_option maxRecDepth 100000 in
theorem s_X12_bits {l : Launch} : conOk (MetP l 0 yX12_bits cX12_bits 3 (some .int) 0 0) C_X12_bits := by
  intro τ hΦ as h ha hh
  refine m_X12_bits (Jc τ T_X12_bits_4) (by rw [all2_len ha]; exact Nat.le_of_ble_eq_true rfl) ?_ ?_
  · exact run0 (τ := τ) (P := P_X12_bits) (CE := [T_X12_bits_4]) (CS := []) (Ms := []) (GS := []) (Mg := []) (T := ((C_X12_bits.1.map some ++ List.replicate (3 - 1) none, [], C_X12_bits.2.1) : Tg)) (sl := [(0, 0)]) (q := 21) (x := 0) (L := enL as 3) (st := []) (h := h) hΦ (fun j C e => match j, e with | _ + 0, e => (by cases e)) (fun j g e => match j, e with | _ + 0, e => (by cases e)) (RS := C_X12_bits.2.2) (Rv := (fun r h' => ∃ q, q ∈ C_X12_bits.2.2 ∧ gR q.1 r ∧ all2 (gC ρ0 τ) q.2 h')) (GR := none) (M := (0, [])) (fun r h' q hq h1 h2 _ => ⟨q, hq, h1, h2⟩) ⟨door ha, trivial, hh⟩ (by decide +kernel)
  · intro μ L st h hJ
    exact runL (τ := τ) (P := P_X12_bits) (CE := [T_X12_bits_4]) (CS := []) (Ms := []) (GS := []) (Mg := []) (Q := T_X12_bits_4) (sl := [(0, 0), (0, 1), (0, 2)]) (q := 21) (x := 4) hΦ (fun j C e => match j, e with | _ + 0, e => (by cases e)) (fun j g e => match j, e with | _ + 0, e => (by cases e)) (RS := C_X12_bits.2.2) (Rv := (fun r h' => ∃ q, q ∈ C_X12_bits.2.2 ∧ gR q.1 r ∧ all2 (gC ρ0 τ) q.2 h')) (fun r h' q hq h1 h2 => ⟨q, hq, h1, h2⟩) hJ (by decide +kernel)

def P_X12_pullOf : List Nd := [(0, [0], [1]), (3, [], [2, 5]), (0, [0], [3]), (3, [], [44, 6]), (1, [], [5, 6]), (1, [], [6, 2]), (11, [], [42, 7, 2]), (1, [], [8, 1]), (1, [], [9, 6]), (26, [], [10, 0, 0, 2]), (10, [], [41, 11, 0]), (2, [], [12, 0]), (18, [], [13, 3, 11]), (2, [], [14, 0]), (18, [], [15, 4, 11]), (2, [], [16, 0]), (18, [], [17, 49, 11]), (1, [], [18, 6]), (20, [], [19, 0]), (20, [], [20, 0]), (20, [], [21, 0]), (3, [], [22, 7]), (1, [], [23, 5]), (2, [], [24, 0]), (18, [], [25, 5, 11]), (2, [], [26, 0]), (18, [], [27, 49, 11]), (1, [], [28, 6]), (20, [], [29, 0]), (20, [], [30, 0]), (1, [], [31, 4]), (10, [], [35, 32, 0]), (1, [], [33, 3]), (1, [], [34, 7]), (26, [], [38, 1, 0, 2]), (1, [], [36, 3]), (1, [], [37, 7]), (26, [], [38, 2, 0, 2]), (6, [], [39, 2]), (6, [], [40, 0]), (3, [], [41, 5]), (5, [1], [44, 6]), (1, [], [43, 5]), (24, [], []), (27, [], [0])]
def C_X12_pullOf : Con := ([.inr (.inr (some (.inl 0))), .inl (-2147483648, 2147483647), .inl (1, 9), .inl (-2147483648, 2147483647), .inl (0, 1)], hc_85dc65d58f, [(some (-2147483648, 2147483647), hc_85dc65d58f)])
def T_X12_pullOf_6 : Tg × Me := (([some (.inr (.inr (some (.inl 0)))), some (.inl (-2147483648, 2147483647)), some (.inl (1, 9)), some (.inl (-2147483648, 2147483647)), some (.inl (0, 1)), some (.inl (-2147483648, 2147483647)), some (.inl (0, 9)), none], [], hc_85dc65d58f), (10, [(-1, 0, 6)]))
set_option maxRecDepth 100000 in
theorem s_X12_pullOf {l : Launch} : conOk (MetP l 2 yX12_pullOf cX12_pullOf 8 (some .int) 0 0) C_X12_pullOf := by
  intro τ hΦ as h ha hh
  refine m_X12_pullOf (Jc τ T_X12_pullOf_6) (by rw [all2_len ha]; exact Nat.le_of_ble_eq_true rfl) ?_ ?_
  · exact run0 (τ := τ) (P := P_X12_pullOf) (CE := [T_X12_pullOf_6]) (CS := [C_X12_has, C_X12_acrossTo, C_X12_alongTo]) (Ms := [MetP l 0 yX12_has cX12_has 2 (some .boolean) 0 0, MetP l 1 yX12_acrossTo cX12_acrossTo 2 (some .int) 0 0, MetP l 1 yX12_alongTo cX12_alongTo 2 (some .int) 0 0]) (GS := []) (Mg := []) (T := ((C_X12_pullOf.1.map some ++ List.replicate (8 - 5) none, [], C_X12_pullOf.2.1) : Tg)) (sl := [(0, 1), (0, 2), (0, 3), (0, 4)]) (q := 47) (x := 0) (L := enL as 8) (st := []) (h := h) hΦ (fun j C e => match j, e with | 0, e => (by cases e; exact s_X12_has) | 1, e => (by cases e; exact s_X12_acrossTo) | 2, e => (by cases e; exact s_X12_alongTo) | _ + 3, e => (by cases e)) (fun j g e => match j, e with | _ + 0, e => (by cases e)) (RS := C_X12_pullOf.2.2) (Rv := (fun r h' => ∃ q, q ∈ C_X12_pullOf.2.2 ∧ gR q.1 r ∧ all2 (gC ρ0 τ) q.2 h')) (GR := none) (M := (0, [])) (fun r h' q hq h1 h2 _ => ⟨q, hq, h1, h2⟩) ⟨door ha, trivial, hh⟩ (by decide +kernel)
  · intro μ L st h hJ
    exact runL (τ := τ) (P := P_X12_pullOf) (CE := [T_X12_pullOf_6]) (CS := [C_X12_has, C_X12_acrossTo, C_X12_alongTo]) (Ms := [MetP l 0 yX12_has cX12_has 2 (some .boolean) 0 0, MetP l 1 yX12_acrossTo cX12_acrossTo 2 (some .int) 0 0, MetP l 1 yX12_alongTo cX12_alongTo 2 (some .int) 0 0]) (GS := []) (Mg := []) (Q := T_X12_pullOf_6) (sl := [(0, 1), (0, 2), (0, 3), (0, 4), (0, 5), (0, 6)]) (q := 47) (x := 4) hΦ (fun j C e => match j, e with | 0, e => (by cases e; exact s_X12_has) | 1, e => (by cases e; exact s_X12_acrossTo) | 2, e => (by cases e; exact s_X12_alongTo) | _ + 3, e => (by cases e)) (fun j g e => match j, e with | _ + 0, e => (by cases e)) (RS := C_X12_pullOf.2.2) (Rv := (fun r h' => ∃ q, q ∈ C_X12_pullOf.2.2 ∧ gR q.1 r ∧ all2 (gC ρ0 τ) q.2 h')) (fun r h' q hq h1 h2 => ⟨q, hq, h1, h2⟩) hJ (by decide +kernel)

def P_X12_stepBy : List Nd := [(1, [], [1, 3]), (2, [], [2, 0]), (1, [], [3, 1]), (1, [], [4, 2]), (1, [], [5, 3]), (0, [1], [6]), (26, [-1, -2, -3, -4, -5, -6, -7, -8, -9, -10, -11, -12, -13, -14, -15, -16, -17, -18, -19, -20, -21, -22, -23, -24, -25, -26, -27], [7, 0, 12, 5, 0, 1, 2, 3, 4]), (2, [], [8, 0]), (1, [], [9, 1]), (1, [], [10, 2]), (1, [], [11, 3]), (0, [0], [12]), (26, [-1, -2, -3, -4, -5, -6, -7, -8, -9, -10, -11, -12, -13, -14, -15, -16, -17, -18, -19, -20, -21, -22, -23, -24, -25, -26, -27], [13, 0, 12, 5, 0, 1, 2, 3, 4]), (0, [0], [14]), (26, [], [15, 1, 0, 4]), (24, [], [])]
def C_X12_stepBy : Con := ([.inr (.inr (some (.inl 0))), .inl (-2147483648, 2147483647), .inl (1, 9), .inl (-2147483648, 2147483647)], hc_85dc65d58f, [(some (-2147483648, 2147483647), hc_85dc65d58f)])
set_option maxRecDepth 100000 in
theorem s_X12_stepBy {l : Launch} : conOk (MetP l 3 yX12_stepBy cX12_stepBy 4 (some .int) 0 0) C_X12_stepBy := by
  intro τ hΦ as h ha hh
  refine m_X12_stepBy  (by rw [all2_len ha]; exact Nat.le_of_ble_eq_true rfl) ?_
  · exact run0 (τ := τ) (P := P_X12_stepBy) (CE := []) (CS := [C_X12_pullOf, C_X12_stepFrom]) (Ms := [MetP l 2 yX12_pullOf cX12_pullOf 8 (some .int) 0 0, MetP l 1 yX12_stepFrom cX12_stepFrom 4 (some .int) 0 0]) (GS := []) (Mg := []) (T := ((C_X12_stepBy.1.map some ++ List.replicate (4 - 4) none, [], C_X12_stepBy.2.1) : Tg)) (sl := [(0, 1), (0, 2), (0, 3)]) (q := 18) (x := 0) (L := enL as 4) (st := []) (h := h) hΦ (fun j C e => match j, e with | 0, e => (by cases e; exact s_X12_pullOf) | 1, e => (by cases e; exact s_X12_stepFrom) | _ + 2, e => (by cases e)) (fun j g e => match j, e with | _ + 0, e => (by cases e)) (RS := C_X12_stepBy.2.2) (Rv := (fun r h' => ∃ q, q ∈ C_X12_stepBy.2.2 ∧ gR q.1 r ∧ all2 (gC ρ0 τ) q.2 h')) (GR := none) (M := (0, [])) (fun r h' q hq h1 h2 _ => ⟨q, hq, h1, h2⟩) ⟨door ha, trivial, hh⟩ (by decide +kernel)

def P_X12_canTry : List Nd := [(1, [], [1, 1]), (0, [0], [2]), (0, [2], [3]), (31, [], [5, 23, 0, 0, 3]), (10, [], [5, 23, 0]), (2, [], [6, 0]), (1, [], [7, 1]), (0, [10], [8]), (6, [], [9, 1]), (31, [-1, -2, -3, -4, -5, -6, -7, -8, -9, -10, -11, -12, -13, -14, -15, -16, -17, -18, -19, -20, -21, -22, -23, -24, -25, -26, -27, -28, -29, -30], [11, 23, 1, 12, 2, 0, 1]), (10, [], [11, 23, 0]), (2, [], [12, 0]), (1, [], [13, 1]), (0, [20], [14]), (6, [], [15, 1]), (31, [-1, -2, -3, -4, -5, -6, -7, -8, -9, -10, -11, -12, -13, -14, -15, -16, -17, -18, -19, -20, -21, -22, -23, -24, -25, -26, -27, -28, -29, -30], [17, 23, 1, 12, 2, 0, 1]), (10, [], [17, 23, 0]), (2, [], [18, 0]), (1, [], [19, 1]), (0, [100], [20]), (6, [], [21, 1]), (31, [1, -1, -2, -3, -4, -5, -6, -7, -8, -9, -10, -11, -12, -13, -14, -15, -16, -17, -18, -19, -20, -21, -22, -23, -24, -25, -26, -27, -28, -29, -30], [24, 23, 2, 12, 2, 0]), (10, [], [24, 23, 0]), (0, [1], [25]), (0, [0], [25]), (25, [], [])]
def C_X12_canTry : Con := ([.inr (.inr (some (.inl 0))), .inl (-2147483648, 2147483647)], hc_348ac27518, [(some (0, 1), hc_348ac27518)])
set_option maxRecDepth 100000 in
theorem s_X12_canTry {l : Launch} : conOk (MetP l 2 yX12_canTry cX12_canTry 2 (some .boolean) 0 0) C_X12_canTry := by
  intro τ hΦ as h ha hh
  refine m_X12_canTry  (by rw [all2_len ha]; exact Nat.le_of_ble_eq_true rfl) ?_
  · exact run0 (τ := τ) (P := P_X12_canTry) (CE := []) (CS := []) (Ms := []) (GS := [(([topA, .inl (0, 2147483647), .inl (-2147483648, 2)], [], some (0, 1), []), 0, 0, 2), (G_X12_isTold, 1, 0, 7), (G_X12_isStamp, 1, 0, 47)]) (Mg := [MetP l 0 yX12_in cX12_in 3 (some .boolean) 0 0, MetP l 1 yX12_isTold cX12_isTold 2 (some .boolean) 0 0, MetP l 1 yX12_isStamp cX12_isStamp 2 (some .boolean) 0 0]) (T := ((C_X12_canTry.1.map some ++ List.replicate (2 - 2) none, [], C_X12_canTry.2.1) : Tg)) (sl := [(0, 1)]) (q := 28) (x := 0) (L := enL as 2) (st := []) (h := h) hΦ (fun j C e => match j, e with | _ + 0, e => (by cases e)) (fun j g e => match j, e with | 0, e => (by cases e; exact gd_in (0) (2)) | 1, e => (by cases e; exact gd_X12_isTold) | 2, e => (by cases e; exact gd_X12_isStamp) | _ + 3, e => (by cases e)) (RS := C_X12_canTry.2.2) (Rv := (fun r h' => ∃ q, q ∈ C_X12_canTry.2.2 ∧ gR q.1 r ∧ all2 (gC ρ0 τ) q.2 h')) (GR := none) (M := (0, [])) (fun r h' q hq h1 h2 _ => ⟨q, hq, h1, h2⟩) ⟨door ha, trivial, hh⟩ (by decide +kernel)

def G_X12_canTry : GCn := ([.inr (.inr (some (.inl 0))), .inl (-2147483648, 2147483647)], hc_348ac27518, some (0, 1), hc_348ac27518)
set_option maxRecDepth 100000 in
theorem c_X12_isTold {l : Launch} {M_aside M_kept M_mintAt M_mintOf M_wholeOf M_isWall M_wasWall M_tape M_said M_waitsAt M_saidLetter M_saidFrom M_saidHalf M_saidTo M_codes M_clauseOf M_codeFrom M_codeHalf M_codeTo M_stack M_facts M_newStamps M_roundFrom M_roundAt M_roundTimes M_usesNow M_wasAt M_someOf M_fewestFor M_getsOf : List (Option Nat)} {M_stampMany M_taped M_place0 M_length0 M_fault M_number0 M_open M_codeMany M_waiting M_saidMany M_clauses M_newMany M_rounds M_stampFrom M_stampTimes M_lines M_spot0 M_pullAcross M_pullAlong M_stepsNow M_fallenNow M_isKept : Int32} {M_now : Nat → Int32}  {x : Int32} : MetP l 1 yX12_isTold cX12_isTold 2 (some .boolean) 0 0 [.inr (some (.inl 0)), .inl x] [.inr (11, [.inr (some (.inl 1)), .inr (some (.inr M_aside)), .inr (some (.inr M_kept)), .inr (some (.inr M_mintAt)), .inr (some (.inr M_mintOf)), .inr (some (.inr M_wholeOf)), .inr (some (.inr M_isWall)), .inr (some (.inr M_wasWall)), .inl M_stampMany, .inr (some (.inr M_tape)), .inl M_taped, .inl M_place0, .inl M_length0, .inl M_fault, .inl M_number0, .inl M_open, .inl M_codeMany, .inl M_waiting, .inl M_saidMany, .inl M_clauses, .inr (some (.inr M_said)), .inr (some (.inr M_waitsAt)), .inr (some (.inr M_saidLetter)), .inr (some (.inr M_saidFrom)), .inr (some (.inr M_saidHalf)), .inr (some (.inr M_saidTo)), .inr (some (.inr M_codes)), .inr (some (.inr M_clauseOf)), .inr (some (.inr M_codeFrom)), .inr (some (.inr M_codeHalf)), .inr (some (.inr M_codeTo)), .inr (some (.inr M_stack)), .inr (some (.inr M_facts)), .inr (some (.inr M_newStamps)), .inr (some (.inr M_roundFrom)), .inr (some (.inr M_roundAt)), .inr (some (.inr M_roundTimes)), .inl M_newMany, .inl M_rounds, .inl M_stampFrom, .inl M_stampTimes, .inl M_lines, .inl M_spot0, .inl M_pullAcross, .inl M_pullAlong, .inl M_stepsNow, .inl M_fallenNow, .inr (some (.inr M_usesNow)), .inr (some (.inr M_wasAt)), .inr (some (.inr M_someOf)), .inr (some (.inr M_fewestFor)), .inr (some (.inr M_getsOf)), .inl M_isKept]), .inl (0, 130, M_now)] (fun r h' => r = some (.inl (bI ((0 ≤ x ∧ x ≤ 7) ∧ M_now x.toNatClampNeg = 1))) ∧ h' = [.inr (11, [.inr (some (.inl 1)), .inr (some (.inr M_aside)), .inr (some (.inr M_kept)), .inr (some (.inr M_mintAt)), .inr (some (.inr M_mintOf)), .inr (some (.inr M_wholeOf)), .inr (some (.inr M_isWall)), .inr (some (.inr M_wasWall)), .inl M_stampMany, .inr (some (.inr M_tape)), .inl M_taped, .inl M_place0, .inl M_length0, .inl M_fault, .inl M_number0, .inl M_open, .inl M_codeMany, .inl M_waiting, .inl M_saidMany, .inl M_clauses, .inr (some (.inr M_said)), .inr (some (.inr M_waitsAt)), .inr (some (.inr M_saidLetter)), .inr (some (.inr M_saidFrom)), .inr (some (.inr M_saidHalf)), .inr (some (.inr M_saidTo)), .inr (some (.inr M_codes)), .inr (some (.inr M_clauseOf)), .inr (some (.inr M_codeFrom)), .inr (some (.inr M_codeHalf)), .inr (some (.inr M_codeTo)), .inr (some (.inr M_stack)), .inr (some (.inr M_facts)), .inr (some (.inr M_newStamps)), .inr (some (.inr M_roundFrom)), .inr (some (.inr M_roundAt)), .inr (some (.inr M_roundTimes)), .inl M_newMany, .inl M_rounds, .inl M_stampFrom, .inl M_stampTimes, .inl M_lines, .inl M_spot0, .inl M_pullAcross, .inl M_pullAlong, .inl M_stepsNow, .inl M_fallenNow, .inr (some (.inr M_usesNow)), .inr (some (.inr M_wasAt)), .inr (some (.inr M_someOf)), .inr (some (.inr M_fewestFor)), .inr (some (.inr M_getsOf)), .inl M_isKept]), .inl (0, 130, M_now)]) := by
  refine m_X12_isTold (Nat.le_of_ble_eq_true rfl) ?_
  refine call0 (c_in) rfl rfl ?_
  rintro r h' ⟨rfl, rfl⟩
  refine br_b (fun h1 => ?_) (fun h1 => ?_)
  · exact And.intro (Or.inl rfl) (by rw [bI_f (fun z => h1 z.1)]; exact ⟨rfl, rfl⟩)
  · have q1 := Int32.le_iff_toInt_le.mp h1.1
    have q2 := Int32.le_iff_toInt_le.mp h1.2
    have e0 : (0 : Int32).toInt = 0 := rfl
    have e7 : (7 : Int32).toInt = 7 := rfl
    have ea : f_add 0 x = x := Int32.zero_add x
    refine And.intro (vp_in_iff.mpr (by rw [ea]; exact ⟨by omega, by omega⟩)) ?_
    refine And.intro (fun (h2 : M_now (f_add 0 x).toNatClampNeg = 1) => ?_) (fun (h2 : ¬ M_now (f_add 0 x).toNatClampNeg = 1) => ?_) <;> rw [ea] at h2
    · exact And.intro (Or.inr rfl) (by rw [bI_t ⟨h1, h2⟩]; exact ⟨rfl, rfl⟩)
    · exact And.intro (Or.inl rfl) (by rw [bI_f (fun z => h2 z.2)]; exact ⟨rfl, rfl⟩)
theorem try_rng {x k lo hi : Int32} (h : lo ≤ f_sub x k ∧ f_sub x k ≤ hi) (hk : 0 ≤ k.toInt) (hl : 0 ≤ lo.toInt) (hh : hi.toInt + k.toInt ≤ 147) : 0 ≤ x.toInt ∧ x.toInt ≤ 147 := by
  have q1 := Int32.le_iff_toInt_le.mp h.1
  have q2 := Int32.le_iff_toInt_le.mp h.2
  have e : x = f_sub x k + k := (Int32.sub_add_cancel x k).symm
  have e2 : x.toInt = (f_sub x k).toInt + k.toInt := by
    rw [congrArg Int32.toInt e, Int32.toInt_add]
    exact bm (by omega) (by omega)
  exact ⟨by omega, by omega⟩
set_option maxRecDepth 100000 in
theorem c_X12_canTry {l : Launch} {M_aside M_kept M_mintAt M_mintOf M_wholeOf M_isWall M_wasWall M_tape M_said M_waitsAt M_saidLetter M_saidFrom M_saidHalf M_saidTo M_codes M_clauseOf M_codeFrom M_codeHalf M_codeTo M_stack M_facts M_newStamps M_roundFrom M_roundAt M_roundTimes M_usesNow M_wasAt M_someOf M_fewestFor M_getsOf : List (Option Nat)} {M_stampMany M_taped M_place0 M_length0 M_fault M_number0 M_open M_codeMany M_waiting M_saidMany M_clauses M_newMany M_rounds M_stampFrom M_stampTimes M_lines M_spot0 M_pullAcross M_pullAlong M_stepsNow M_fallenNow M_isKept : Int32} {M_now : Nat → Int32}  {x : Int32} (hs : 0 ≤ M_stampMany.toInt ∧ M_stampMany.toInt ≤ 48) : MetP l 2 yX12_canTry cX12_canTry 2 (some .boolean) 0 0 [.inr (some (.inl 0)), .inl x] [.inr (11, [.inr (some (.inl 1)), .inr (some (.inr M_aside)), .inr (some (.inr M_kept)), .inr (some (.inr M_mintAt)), .inr (some (.inr M_mintOf)), .inr (some (.inr M_wholeOf)), .inr (some (.inr M_isWall)), .inr (some (.inr M_wasWall)), .inl M_stampMany, .inr (some (.inr M_tape)), .inl M_taped, .inl M_place0, .inl M_length0, .inl M_fault, .inl M_number0, .inl M_open, .inl M_codeMany, .inl M_waiting, .inl M_saidMany, .inl M_clauses, .inr (some (.inr M_said)), .inr (some (.inr M_waitsAt)), .inr (some (.inr M_saidLetter)), .inr (some (.inr M_saidFrom)), .inr (some (.inr M_saidHalf)), .inr (some (.inr M_saidTo)), .inr (some (.inr M_codes)), .inr (some (.inr M_clauseOf)), .inr (some (.inr M_codeFrom)), .inr (some (.inr M_codeHalf)), .inr (some (.inr M_codeTo)), .inr (some (.inr M_stack)), .inr (some (.inr M_facts)), .inr (some (.inr M_newStamps)), .inr (some (.inr M_roundFrom)), .inr (some (.inr M_roundAt)), .inr (some (.inr M_roundTimes)), .inl M_newMany, .inl M_rounds, .inl M_stampFrom, .inl M_stampTimes, .inl M_lines, .inl M_spot0, .inl M_pullAcross, .inl M_pullAlong, .inl M_stepsNow, .inl M_fallenNow, .inr (some (.inr M_usesNow)), .inr (some (.inr M_wasAt)), .inr (some (.inr M_someOf)), .inr (some (.inr M_fewestFor)), .inr (some (.inr M_getsOf)), .inl M_isKept]), .inl (0, 130, M_now)] (fun r h' => ∃ y : Int32, r = some (.inl y) ∧ h' = [.inr (11, [.inr (some (.inl 1)), .inr (some (.inr M_aside)), .inr (some (.inr M_kept)), .inr (some (.inr M_mintAt)), .inr (some (.inr M_mintOf)), .inr (some (.inr M_wholeOf)), .inr (some (.inr M_isWall)), .inr (some (.inr M_wasWall)), .inl M_stampMany, .inr (some (.inr M_tape)), .inl M_taped, .inl M_place0, .inl M_length0, .inl M_fault, .inl M_number0, .inl M_open, .inl M_codeMany, .inl M_waiting, .inl M_saidMany, .inl M_clauses, .inr (some (.inr M_said)), .inr (some (.inr M_waitsAt)), .inr (some (.inr M_saidLetter)), .inr (some (.inr M_saidFrom)), .inr (some (.inr M_saidHalf)), .inr (some (.inr M_saidTo)), .inr (some (.inr M_codes)), .inr (some (.inr M_clauseOf)), .inr (some (.inr M_codeFrom)), .inr (some (.inr M_codeHalf)), .inr (some (.inr M_codeTo)), .inr (some (.inr M_stack)), .inr (some (.inr M_facts)), .inr (some (.inr M_newStamps)), .inr (some (.inr M_roundFrom)), .inr (some (.inr M_roundAt)), .inr (some (.inr M_roundTimes)), .inl M_newMany, .inl M_rounds, .inl M_stampFrom, .inl M_stampTimes, .inl M_lines, .inl M_spot0, .inl M_pullAcross, .inl M_pullAlong, .inl M_stepsNow, .inl M_fallenNow, .inr (some (.inr M_usesNow)), .inr (some (.inr M_wasAt)), .inr (some (.inr M_someOf)), .inr (some (.inr M_fewestFor)), .inr (some (.inr M_getsOf)), .inl M_isKept]), .inl (0, 130, M_now)] ∧ (y = 0 ∨ (y = 1 ∧ 0 ≤ x.toInt ∧ x.toInt ≤ 147))) := by
  refine m_X12_canTry (Nat.le_of_ble_eq_true rfl) ?_
  refine call0 (c_in) rfl rfl ?_
  rintro r h' ⟨rfl, rfl⟩
  refine br_b (fun h1 => ?_) (fun h1 => ?_)
  · refine call0 (c_X12_isTold) rfl rfl ?_
    rintro r h' ⟨rfl, rfl⟩
    refine br_b (fun h2 => ?_) (fun h2 => ?_)
    · refine call0 (c_X12_isTold) rfl rfl ?_
      rintro r h' ⟨rfl, rfl⟩
      refine br_b (fun h3 => ?_) (fun h3 => ?_)
      · refine call0 (c_X12_isStamp) rfl rfl ?_
        rintro r h' ⟨rfl, rfl⟩
        refine br_b (fun h4 => ?_) (fun h4 => ?_)
        · exact And.intro (Or.inl rfl) ⟨0, rfl, rfl, Or.inl rfl⟩
        · refine And.intro (Or.inr rfl) ⟨1, rfl, rfl, Or.inr ⟨rfl, try_rng (k := 100) (lo := 0) (hi := 47) ⟨h4.1, ?_⟩ (by decide) (by decide) (by decide)⟩⟩
          have q2 := Int32.le_iff_toInt_le.mp h4.2
          have e1 : (f_sub M_stampMany 1).toInt = M_stampMany.toInt - 1 := by
            show (M_stampMany - 1).toInt = _
            rw [Int32.toInt_sub]
            exact bm (by have : (1 : Int32).toInt = 1 := rfl; omega) (by have : (1 : Int32).toInt = 1 := rfl; omega)
          exact Int32.le_iff_toInt_le.mpr (by have : (47 : Int32).toInt = 47 := rfl; omega)
      · exact And.intro (Or.inr rfl) ⟨1, rfl, rfl, Or.inr ⟨rfl, try_rng (k := 20) h3.1 (by decide) (by decide) (by decide)⟩⟩
    · exact And.intro (Or.inr rfl) ⟨1, rfl, rfl, Or.inr ⟨rfl, try_rng (k := 10) h2.1 (by decide) (by decide) (by decide)⟩⟩
  · exact And.intro (Or.inr rfl) ⟨1, rfl, rfl, Or.inr ⟨rfl, by have := Int32.le_iff_toInt_le.mp h1.1; have e0 : (0 : Int32).toInt = 0 := rfl; omega, by have := Int32.le_iff_toInt_le.mp h1.2; have e0 : (2 : Int32).toInt = 2 := rfl; omega⟩⟩
theorem gd_X12_canTry {l : Launch} : gconOk (MetP l 2 yX12_canTry cX12_canTry 2 (some .boolean) 0 0) G_X12_canTry 1 0 147 := by
  intro τ hΦ as h ha hh
  have z := all2_cons ha
  clear ha
  obtain ⟨v0, as, rfl, q0, ha⟩ := z
  cases (q0 : v0 = .inr (some (.inl 0)))
  have z := all2_cons ha
  clear ha
  obtain ⟨v0, as, rfl, q0, ha⟩ := z
  obtain ⟨x, rfl, b_x⟩ := q0
  cases as with
  | cons _ _ => exact ha.elim
  | nil =>
    have z := all2_cons hh
    clear hh
    obtain ⟨e0, h, rfl, g0, hh⟩ := z
    rcases e0 with ⟨t0, n0, f0⟩ | ⟨ci, fs⟩
    · exact g0.elim
    obtain ⟨rfl, gf⟩ := g0
    have z := all2_cons gf
    clear gf
    obtain ⟨v0, fs, rfl, q0, gf⟩ := z
    cases (q0 : v0 = .inr (some (.inl 1)))
    have z := all2_cons gf
    clear gf
    obtain ⟨v0, fs, rfl, q0, gf⟩ := z
    cases gT_r (τ := τ) (t := 0) (v := v0) rfl q0
    have z := all2_cons gf
    clear gf
    obtain ⟨v0, fs, rfl, q0, gf⟩ := z
    cases gT_r (τ := τ) (t := 1) (v := v0) rfl q0
    have z := all2_cons gf
    clear gf
    obtain ⟨v0, fs, rfl, q0, gf⟩ := z
    cases gT_r (τ := τ) (t := 2) (v := v0) rfl q0
    have z := all2_cons gf
    clear gf
    obtain ⟨v0, fs, rfl, q0, gf⟩ := z
    cases gT_r (τ := τ) (t := 3) (v := v0) rfl q0
    have z := all2_cons gf
    clear gf
    obtain ⟨v0, fs, rfl, q0, gf⟩ := z
    cases gT_r (τ := τ) (t := 4) (v := v0) rfl q0
    have z := all2_cons gf
    clear gf
    obtain ⟨v0, fs, rfl, q0, gf⟩ := z
    cases gT_r (τ := τ) (t := 5) (v := v0) rfl q0
    have z := all2_cons gf
    clear gf
    obtain ⟨v0, fs, rfl, q0, gf⟩ := z
    cases gT_r (τ := τ) (t := 6) (v := v0) rfl q0
    have z := all2_cons gf
    clear gf
    obtain ⟨v0, fs, rfl, q0, gf⟩ := z
    obtain ⟨M_stampMany, rfl, b_stampMany⟩ := q0
    have z := all2_cons gf
    clear gf
    obtain ⟨v0, fs, rfl, q0, gf⟩ := z
    cases gT_r (τ := τ) (t := 7) (v := v0) rfl q0
    have z := all2_cons gf
    clear gf
    obtain ⟨v0, fs, rfl, q0, gf⟩ := z
    obtain ⟨M_taped, rfl, b_taped⟩ := q0
    have z := all2_cons gf
    clear gf
    obtain ⟨v0, fs, rfl, q0, gf⟩ := z
    obtain ⟨M_place0, rfl, b_place0⟩ := q0
    have z := all2_cons gf
    clear gf
    obtain ⟨v0, fs, rfl, q0, gf⟩ := z
    obtain ⟨M_length0, rfl, b_length0⟩ := q0
    have z := all2_cons gf
    clear gf
    obtain ⟨v0, fs, rfl, q0, gf⟩ := z
    obtain ⟨M_fault, rfl, b_fault⟩ := q0
    have z := all2_cons gf
    clear gf
    obtain ⟨v0, fs, rfl, q0, gf⟩ := z
    obtain ⟨M_number0, rfl, b_number0⟩ := q0
    have z := all2_cons gf
    clear gf
    obtain ⟨v0, fs, rfl, q0, gf⟩ := z
    obtain ⟨M_open, rfl, b_open⟩ := q0
    have z := all2_cons gf
    clear gf
    obtain ⟨v0, fs, rfl, q0, gf⟩ := z
    obtain ⟨M_codeMany, rfl, b_codeMany⟩ := q0
    have z := all2_cons gf
    clear gf
    obtain ⟨v0, fs, rfl, q0, gf⟩ := z
    obtain ⟨M_waiting, rfl, b_waiting⟩ := q0
    have z := all2_cons gf
    clear gf
    obtain ⟨v0, fs, rfl, q0, gf⟩ := z
    obtain ⟨M_saidMany, rfl, b_saidMany⟩ := q0
    have z := all2_cons gf
    clear gf
    obtain ⟨v0, fs, rfl, q0, gf⟩ := z
    cases gT_i (τ := τ) (t := 200) (v := v0) rfl q0
    have z := all2_cons gf
    clear gf
    obtain ⟨v0, fs, rfl, q0, gf⟩ := z
    cases gT_r (τ := τ) (t := 8) (v := v0) rfl q0
    have z := all2_cons gf
    clear gf
    obtain ⟨v0, fs, rfl, q0, gf⟩ := z
    cases gT_r (τ := τ) (t := 9) (v := v0) rfl q0
    have z := all2_cons gf
    clear gf
    obtain ⟨v0, fs, rfl, q0, gf⟩ := z
    cases gT_r (τ := τ) (t := 10) (v := v0) rfl q0
    have z := all2_cons gf
    clear gf
    obtain ⟨v0, fs, rfl, q0, gf⟩ := z
    cases gT_r (τ := τ) (t := 11) (v := v0) rfl q0
    have z := all2_cons gf
    clear gf
    obtain ⟨v0, fs, rfl, q0, gf⟩ := z
    cases gT_r (τ := τ) (t := 12) (v := v0) rfl q0
    have z := all2_cons gf
    clear gf
    obtain ⟨v0, fs, rfl, q0, gf⟩ := z
    cases gT_r (τ := τ) (t := 13) (v := v0) rfl q0
    have z := all2_cons gf
    clear gf
    obtain ⟨v0, fs, rfl, q0, gf⟩ := z
    cases gT_r (τ := τ) (t := 14) (v := v0) rfl q0
    have z := all2_cons gf
    clear gf
    obtain ⟨v0, fs, rfl, q0, gf⟩ := z
    cases gT_r (τ := τ) (t := 15) (v := v0) rfl q0
    have z := all2_cons gf
    clear gf
    obtain ⟨v0, fs, rfl, q0, gf⟩ := z
    cases gT_r (τ := τ) (t := 16) (v := v0) rfl q0
    have z := all2_cons gf
    clear gf
    obtain ⟨v0, fs, rfl, q0, gf⟩ := z
    cases gT_r (τ := τ) (t := 17) (v := v0) rfl q0
    have z := all2_cons gf
    clear gf
    obtain ⟨v0, fs, rfl, q0, gf⟩ := z
    cases gT_r (τ := τ) (t := 18) (v := v0) rfl q0
    have z := all2_cons gf
    clear gf
    obtain ⟨v0, fs, rfl, q0, gf⟩ := z
    cases gT_r (τ := τ) (t := 19) (v := v0) rfl q0
    have z := all2_cons gf
    clear gf
    obtain ⟨v0, fs, rfl, q0, gf⟩ := z
    cases gT_r (τ := τ) (t := 20) (v := v0) rfl q0
    have z := all2_cons gf
    clear gf
    obtain ⟨v0, fs, rfl, q0, gf⟩ := z
    cases gT_r (τ := τ) (t := 21) (v := v0) rfl q0
    have z := all2_cons gf
    clear gf
    obtain ⟨v0, fs, rfl, q0, gf⟩ := z
    cases gT_r (τ := τ) (t := 22) (v := v0) rfl q0
    have z := all2_cons gf
    clear gf
    obtain ⟨v0, fs, rfl, q0, gf⟩ := z
    cases gT_r (τ := τ) (t := 23) (v := v0) rfl q0
    have z := all2_cons gf
    clear gf
    obtain ⟨v0, fs, rfl, q0, gf⟩ := z
    cases gT_r (τ := τ) (t := 24) (v := v0) rfl q0
    have z := all2_cons gf
    clear gf
    obtain ⟨v0, fs, rfl, q0, gf⟩ := z
    obtain ⟨M_newMany, rfl, b_newMany⟩ := q0
    have z := all2_cons gf
    clear gf
    obtain ⟨v0, fs, rfl, q0, gf⟩ := z
    obtain ⟨M_rounds, rfl, b_rounds⟩ := q0
    have z := all2_cons gf
    clear gf
    obtain ⟨v0, fs, rfl, q0, gf⟩ := z
    obtain ⟨M_stampFrom, rfl, b_stampFrom⟩ := q0
    have z := all2_cons gf
    clear gf
    obtain ⟨v0, fs, rfl, q0, gf⟩ := z
    obtain ⟨M_stampTimes, rfl, b_stampTimes⟩ := q0
    have z := all2_cons gf
    clear gf
    obtain ⟨v0, fs, rfl, q0, gf⟩ := z
    obtain ⟨M_lines, rfl, b_lines⟩ := q0
    have z := all2_cons gf
    clear gf
    obtain ⟨v0, fs, rfl, q0, gf⟩ := z
    obtain ⟨M_spot0, rfl, b_spot0⟩ := q0
    have z := all2_cons gf
    clear gf
    obtain ⟨v0, fs, rfl, q0, gf⟩ := z
    obtain ⟨M_pullAcross, rfl, b_pullAcross⟩ := q0
    have z := all2_cons gf
    clear gf
    obtain ⟨v0, fs, rfl, q0, gf⟩ := z
    obtain ⟨M_pullAlong, rfl, b_pullAlong⟩ := q0
    have z := all2_cons gf
    clear gf
    obtain ⟨v0, fs, rfl, q0, gf⟩ := z
    obtain ⟨M_stepsNow, rfl, b_stepsNow⟩ := q0
    have z := all2_cons gf
    clear gf
    obtain ⟨v0, fs, rfl, q0, gf⟩ := z
    obtain ⟨M_fallenNow, rfl, b_fallenNow⟩ := q0
    have z := all2_cons gf
    clear gf
    obtain ⟨v0, fs, rfl, q0, gf⟩ := z
    cases gT_r (τ := τ) (t := 25) (v := v0) rfl q0
    have z := all2_cons gf
    clear gf
    obtain ⟨v0, fs, rfl, q0, gf⟩ := z
    cases gT_r (τ := τ) (t := 26) (v := v0) rfl q0
    have z := all2_cons gf
    clear gf
    obtain ⟨v0, fs, rfl, q0, gf⟩ := z
    cases gT_r (τ := τ) (t := 27) (v := v0) rfl q0
    have z := all2_cons gf
    clear gf
    obtain ⟨v0, fs, rfl, q0, gf⟩ := z
    cases gT_r (τ := τ) (t := 28) (v := v0) rfl q0
    have z := all2_cons gf
    clear gf
    obtain ⟨v0, fs, rfl, q0, gf⟩ := z
    cases gT_r (τ := τ) (t := 29) (v := v0) rfl q0
    have z := all2_cons gf
    clear gf
    obtain ⟨v0, fs, rfl, q0, gf⟩ := z
    obtain ⟨M_isKept, rfl, e_isKept, b_isKept⟩ := gT_x (τ := τ) (t := 201) (v := v0) rfl q0
    cases fs with
    | cons _ _ => exact gf.elim
    | nil =>
      have z := all2_cons hh
      clear hh
      obtain ⟨e1, h, rfl, g1, hh⟩ := z
      rcases e1 with ⟨t1, n1, M_now⟩ | ⟨ci, fs⟩
      rotate_left
      · exact g1.elim
      obtain ⟨et, en, b_now⟩ := g1
      cases (et : t1 = 0)
      cases en
      cases h with
      | cons _ _ => exact hh.elim
      | nil =>
      refine (c_X12_canTry b_stampMany).mono (fun r h' hp => ?_)
      obtain ⟨y, rfl, rfl, hy⟩ := hp
      refine ⟨⟨y, rfl, by rcases hy with rfl | ⟨rfl, _⟩ <;> decide⟩, ⟨⟨rfl, rfl, rfl, rfl, rfl, rfl, rfl, rfl, rfl, ⟨_, rfl, b_stampMany⟩, rfl, ⟨_, rfl, b_taped⟩, ⟨_, rfl, b_place0⟩, ⟨_, rfl, b_length0⟩, ⟨_, rfl, b_fault⟩, ⟨_, rfl, b_number0⟩, ⟨_, rfl, b_open⟩, ⟨_, rfl, b_codeMany⟩, ⟨_, rfl, b_waiting⟩, ⟨_, rfl, b_saidMany⟩, gT_mk (t := 200) rfl rfl ⟨i32lo _, i32hi _⟩, rfl, rfl, rfl, rfl, rfl, rfl, rfl, rfl, rfl, rfl, rfl, rfl, rfl, rfl, rfl, rfl, rfl, ⟨_, rfl, b_newMany⟩, ⟨_, rfl, b_rounds⟩, ⟨_, rfl, b_stampFrom⟩, ⟨_, rfl, b_stampTimes⟩, ⟨_, rfl, b_lines⟩, ⟨_, rfl, b_spot0⟩, ⟨_, rfl, b_pullAcross⟩, ⟨_, rfl, b_pullAlong⟩, ⟨_, rfl, b_stepsNow⟩, ⟨_, rfl, b_fallenNow⟩, rfl, rfl, rfl, rfl, rfl, gT_mk rfl e_isKept b_isKept, trivial⟩, ⟨rfl, rfl, b_now⟩, trivial⟩, fun x' v e hn ev => ?_⟩
      cases e
      cases ev
      rcases hy with rfl | ⟨_, hy⟩
      · exact absurd rfl hn
      · exact hy

def P_X12_check : List Nd := [(1, [], [1, 1]), (0, [0], [2]), (0, [8], [3]), (31, [], [9, 5, 0, 0, 3]), (10, [], [9, 5, 0]), (1, [], [6, 1]), (2, [], [7, 0]), (18, [], [8, 10, 11]), (11, [], [11, 9, 4]), (0, [-2], [10]), (24, [], []), (2, [], [12, 0]), (0, [0], [13]), (19, [], [14, 10, 0, 11]), (0, [0], [15]), (3, [], [41, 2]), (1, [], [17, 2]), (1, [], [18, 1]), (11, [], [39, 19, 2]), (2, [], [20, 0]), (1, [], [21, 2]), (26, [1, -1, -2, -3, -4, -5, -6, -7, -8, -9, -10, -11, -12, -13, -14, -15, -16, -17, -18, -19, -20, -21, -22, -23, -24, -25, -26, -27, -28, -29], [22, 0, 12, 2, 0, 2]), (2, [], [23, 0]), (1, [], [24, 2]), (31, [-1, -2, -3, -4, -5, -6, -7, 2, -8, -9, -10, -11, -12, -13, -14, -15, -16, -17, -18, -19, -20, -21, -22, -23, -24, -25, -26, -27, -28, -29], [34, 26, 1, 12, 2, 0, 1]), (10, [], [34, 26, 0]), (2, [], [27, 0]), (18, [], [28, 0, 11]), (0, [8], [29]), (1, [], [30, 2]), (6, [], [31, 0]), (20, [], [32, 0]), (0, [24], [33]), (9, [], [35]), (0, [255], [35]), (11, [], [38, 36, 0]), (1, [], [37, 2]), (24, [], []), (5, [1], [41, 2]), (0, [-1], [40]), (24, [], []), (27, [], [0])]
def C_X12_check : Con := ([.inr (.inr (some (.inl 0))), .inl (-2147483648, 2147483647)], hc_30dde594b3, [(some (-2147483648, 2147483647), hc_30dde594b3)])
def T_X12_check_28 : Tg × Me := (([some (.inr (.inr (some (.inl 0)))), some (.inl (0, 8)), some (.inl (0, 8))], [], hc_30dde594b3), (9, [(-1, 0, 2)]))
set_option maxRecDepth 100000 in
theorem s_X12_check {l : Launch} : conOk (MetP l 2 yX12_check cX12_check 3 (some .int) 0 0) C_X12_check := by
  intro τ hΦ as h ha hh
  refine m_X12_check (Jc τ T_X12_check_28) (by rw [all2_len ha]; exact Nat.le_of_ble_eq_true rfl) ?_ ?_
  · exact run0 (τ := τ) (P := P_X12_check) (CE := [T_X12_check_28]) (CS := [C_X12_octet]) (Ms := [MetP l 0 yX12_octet cX12_octet 2 (some .int) 0 0]) (GS := [(([topA, .inl (0, 2147483647), .inl (-2147483648, 8)], [], some (0, 1), []), 0, 0, 8), (G_X12_isTold, 1, 0, 7)]) (Mg := [MetP l 0 yX12_in cX12_in 3 (some .boolean) 0 0, MetP l 1 yX12_isTold cX12_isTold 2 (some .boolean) 0 0]) (T := ((C_X12_check.1.map some ++ List.replicate (3 - 2) none, [], C_X12_check.2.1) : Tg)) (sl := [(0, 1)]) (q := 44) (x := 0) (L := enL as 3) (st := []) (h := h) hΦ (fun j C e => match j, e with | 0, e => (by cases e; exact s_X12_octet) | _ + 1, e => (by cases e)) (fun j g e => match j, e with | 0, e => (by cases e; exact gd_in (0) (8)) | 1, e => (by cases e; exact gd_X12_isTold) | _ + 2, e => (by cases e)) (RS := C_X12_check.2.2) (Rv := (fun r h' => ∃ q, q ∈ C_X12_check.2.2 ∧ gR q.1 r ∧ all2 (gC ρ0 τ) q.2 h')) (GR := none) (M := (0, [])) (fun r h' q hq h1 h2 _ => ⟨q, hq, h1, h2⟩) ⟨door ha, trivial, hh⟩ (by decide +kernel)
  · intro μ L st h hJ
    exact runL (τ := τ) (P := P_X12_check) (CE := [T_X12_check_28]) (CS := [C_X12_octet]) (Ms := [MetP l 0 yX12_octet cX12_octet 2 (some .int) 0 0]) (GS := [(([topA, .inl (0, 2147483647), .inl (-2147483648, 8)], [], some (0, 1), []), 0, 0, 8), (G_X12_isTold, 1, 0, 7)]) (Mg := [MetP l 0 yX12_in cX12_in 3 (some .boolean) 0 0, MetP l 1 yX12_isTold cX12_isTold 2 (some .boolean) 0 0]) (Q := T_X12_check_28) (sl := [(0, 1), (0, 2)]) (q := 44) (x := 16) hΦ (fun j C e => match j, e with | 0, e => (by cases e; exact s_X12_octet) | _ + 1, e => (by cases e)) (fun j g e => match j, e with | 0, e => (by cases e; exact gd_in (0) (8)) | 1, e => (by cases e; exact gd_X12_isTold) | _ + 2, e => (by cases e)) (RS := C_X12_check.2.2) (Rv := (fun r h' => ∃ q, q ∈ C_X12_check.2.2 ∧ gR q.1 r ∧ all2 (gC ρ0 τ) q.2 h')) (fun r h' q hq h1 h2 => ⟨q, hq, h1, h2⟩) hJ (by decide +kernel)

def P_X12_isPlace : List Nd := [(1, [], [1, 0]), (0, [0], [2]), (0, [383], [3]), (26, [], [4, 0, 0, 3]), (25, [], [])]
def C_X12_isPlace : Con := ([.inl (-2147483648, 2147483647)], [], [(some (0, 1), [])])
set_option maxRecDepth 100000 in
theorem s_X12_isPlace {l : Launch} : conOk (MetP l 1 yX12_isPlace cX12_isPlace 1 (some .boolean) 0 0) C_X12_isPlace := by
  intro τ hΦ as h ha hh
  refine m_X12_isPlace  (by rw [all2_len ha]; exact Nat.le_of_ble_eq_true rfl) ?_
  · exact run0 (τ := τ) (P := P_X12_isPlace) (CE := []) (CS := [C_X12_in]) (Ms := [MetP l 0 yX12_in cX12_in 3 (some .boolean) 0 0]) (GS := []) (Mg := []) (T := ((C_X12_isPlace.1.map some ++ List.replicate (1 - 1) none, [], C_X12_isPlace.2.1) : Tg)) (sl := [(0, 0)]) (q := 7) (x := 0) (L := enL as 1) (st := []) (h := h) hΦ (fun j C e => match j, e with | 0, e => (by cases e; exact s_X12_in) | _ + 1, e => (by cases e)) (fun j g e => match j, e with | _ + 0, e => (by cases e)) (RS := C_X12_isPlace.2.2) (Rv := (fun r h' => ∃ q, q ∈ C_X12_isPlace.2.2 ∧ gR q.1 r ∧ all2 (gC ρ0 τ) q.2 h')) (GR := none) (M := (0, [])) (fun r h' q hq h1 h2 _ => ⟨q, hq, h1, h2⟩) ⟨door ha, trivial, hh⟩ (by decide +kernel)

def P_X12_toldLetters : List Nd := [(0, [0], [1]), (3, [], [2, 1]), (0, [0], [3]), (3, [], [20, 2]), (1, [], [5, 2]), (0, [8], [6]), (11, [], [18, 7, 2]), (2, [], [8, 0]), (1, [], [9, 2]), (31, [-1, -2, -3, -4, -5, -6, -7, -8, -9, -10, -11, -12, -13, -14, -15, -16, -17, -18, -19, -20, -21, -22, -23, -24, -25, -26, -27, -28, -29, -30], [17, 11, 0, 12, 2, 0, 1]), (10, [], [17, 11, 0]), (1, [], [12, 1]), (0, [1], [13]), (1, [], [14, 2]), (6, [], [15, 6]), (6, [], [16, 4]), (3, [], [17, 1]), (5, [1], [20, 2]), (1, [], [19, 1]), (24, [], []), (27, [], [0])]
def C_X12_toldLetters : Con := ([.inr (.inr (some (.inl 0)))], hc_348ac27518, [(some (-2147483648, 2147483647), hc_348ac27518)])
def T_X12_toldLetters_4 : Tg × Me := (([some (.inr (.inr (some (.inl 0)))), some (.inl (-2147483648, 2147483647)), some (.inl (0, 8))], [], hc_348ac27518), (9, [(-1, 0, 2)]))
set_option maxRecDepth 100000 in
theorem s_X12_toldLetters {l : Launch} : conOk (MetP l 2 yX12_toldLetters cX12_toldLetters 3 (some .int) 0 0) C_X12_toldLetters := by
  intro τ hΦ as h ha hh
  refine m_X12_toldLetters (Jc τ T_X12_toldLetters_4) (by rw [all2_len ha]; exact Nat.le_of_ble_eq_true rfl) ?_ ?_
  · exact run0 (τ := τ) (P := P_X12_toldLetters) (CE := [T_X12_toldLetters_4]) (CS := []) (Ms := []) (GS := [(G_X12_isTold, 1, 0, 7)]) (Mg := [MetP l 1 yX12_isTold cX12_isTold 2 (some .boolean) 0 0]) (T := ((C_X12_toldLetters.1.map some ++ List.replicate (3 - 1) none, [], C_X12_toldLetters.2.1) : Tg)) (sl := []) (q := 23) (x := 0) (L := enL as 3) (st := []) (h := h) hΦ (fun j C e => match j, e with | _ + 0, e => (by cases e)) (fun j g e => match j, e with | 0, e => (by cases e; exact gd_X12_isTold) | _ + 1, e => (by cases e)) (RS := C_X12_toldLetters.2.2) (Rv := (fun r h' => ∃ q, q ∈ C_X12_toldLetters.2.2 ∧ gR q.1 r ∧ all2 (gC ρ0 τ) q.2 h')) (GR := none) (M := (0, [])) (fun r h' q hq h1 h2 _ => ⟨q, hq, h1, h2⟩) ⟨door ha, trivial, hh⟩ (by decide +kernel)
  · intro μ L st h hJ
    exact runL (τ := τ) (P := P_X12_toldLetters) (CE := [T_X12_toldLetters_4]) (CS := []) (Ms := []) (GS := [(G_X12_isTold, 1, 0, 7)]) (Mg := [MetP l 1 yX12_isTold cX12_isTold 2 (some .boolean) 0 0]) (Q := T_X12_toldLetters_4) (sl := [(0, 1), (0, 2)]) (q := 23) (x := 4) hΦ (fun j C e => match j, e with | _ + 0, e => (by cases e)) (fun j g e => match j, e with | 0, e => (by cases e; exact gd_X12_isTold) | _ + 1, e => (by cases e)) (RS := C_X12_toldLetters.2.2) (Rv := (fun r h' => ∃ q, q ∈ C_X12_toldLetters.2.2 ∧ gR q.1 r ∧ all2 (gC ρ0 τ) q.2 h')) (fun r h' q hq h1 h2 => ⟨q, hq, h1, h2⟩) hJ (by decide +kernel)

def P_X12_toldMints : List Nd := [(0, [0], [1]), (3, [], [2, 1]), (0, [0], [3]), (3, [], [22, 2]), (1, [], [5, 2]), (0, [8], [6]), (11, [], [20, 7, 2]), (2, [], [8, 0]), (18, [], [9, 3, 11]), (1, [], [10, 2]), (20, [], [11, 0]), (0, [-1], [12]), (11, [], [19, 13, 0]), (1, [], [14, 1]), (0, [1], [15]), (1, [], [16, 2]), (6, [], [17, 6]), (6, [], [18, 4]), (3, [], [19, 1]), (5, [1], [22, 2]), (1, [], [21, 1]), (24, [], []), (27, [], [0])]
def C_X12_toldMints : Con := ([.inr (.inr (some (.inl 0)))], hc_f49572744a, [(some (-2147483648, 2147483647), hc_f49572744a)])
def T_X12_toldMints_4 : Tg × Me := (([some (.inr (.inr (some (.inl 0)))), some (.inl (-2147483648, 2147483647)), some (.inl (0, 8))], [], hc_f49572744a), (9, [(-1, 0, 2)]))
set_option maxRecDepth 100000 in
theorem s_X12_toldMints {l : Launch} : conOk (MetP l 0 yX12_toldMints cX12_toldMints 3 (some .int) 0 0) C_X12_toldMints := by
  intro τ hΦ as h ha hh
  refine m_X12_toldMints (Jc τ T_X12_toldMints_4) (by rw [all2_len ha]; exact Nat.le_of_ble_eq_true rfl) ?_ ?_
  · exact run0 (τ := τ) (P := P_X12_toldMints) (CE := [T_X12_toldMints_4]) (CS := []) (Ms := []) (GS := []) (Mg := []) (T := ((C_X12_toldMints.1.map some ++ List.replicate (3 - 1) none, [], C_X12_toldMints.2.1) : Tg)) (sl := []) (q := 25) (x := 0) (L := enL as 3) (st := []) (h := h) hΦ (fun j C e => match j, e with | _ + 0, e => (by cases e)) (fun j g e => match j, e with | _ + 0, e => (by cases e)) (RS := C_X12_toldMints.2.2) (Rv := (fun r h' => ∃ q, q ∈ C_X12_toldMints.2.2 ∧ gR q.1 r ∧ all2 (gC ρ0 τ) q.2 h')) (GR := none) (M := (0, [])) (fun r h' q hq h1 h2 _ => ⟨q, hq, h1, h2⟩) ⟨door ha, trivial, hh⟩ (by decide +kernel)
  · intro μ L st h hJ
    exact runL (τ := τ) (P := P_X12_toldMints) (CE := [T_X12_toldMints_4]) (CS := []) (Ms := []) (GS := []) (Mg := []) (Q := T_X12_toldMints_4) (sl := [(0, 1), (0, 2)]) (q := 25) (x := 4) hΦ (fun j C e => match j, e with | _ + 0, e => (by cases e)) (fun j g e => match j, e with | _ + 0, e => (by cases e)) (RS := C_X12_toldMints.2.2) (Rv := (fun r h' => ∃ q, q ∈ C_X12_toldMints.2.2 ∧ gR q.1 r ∧ all2 (gC ρ0 τ) q.2 h')) (fun r h' q hq h1 h2 => ⟨q, hq, h1, h2⟩) hJ (by decide +kernel)

def P_X12_count : List Nd := [(0, [0], [1]), (3, [], [2, 2]), (1, [], [3, 1]), (12, [0], [4, 71]), (2, [], [5, 0]), (18, [], [6, 0, 11]), (0, [128], [7]), (20, [], [8, 0]), (24, [], []), (2, [], [10, 0]), (26, [1, -1, -2, -3, -4, 3, -5, -6, -7, -8, -9, -10, -11, -12, -13, -14, -15, -16, -17, -18, -19, -20, -21, -22, -23, -24, -25, -26, -27, -28], [11, 0, 12, 1, 0, 2]), (24, [], []), (2, [], [13, 0]), (26, [-1, -2, 2, -3, -4, 3, -5, -6, -7, -8, -9, -10, -11, -12, -13, -14, -15, -16, -17, -18, -19, -20, -21, -22, -23, -24, -25, -26, -27, -28], [14, 1, 12, 1, 0, 1]), (24, [], []), (2, [], [16, 0]), (18, [], [17, 8, 11]), (24, [], []), (0, [0], [19]), (3, [], [69, 3]), (1, [], [21, 3]), (2, [], [22, 0]), (18, [], [23, 8, 11]), (11, [], [37, 24, 2]), (2, [], [25, 0]), (18, [], [26, 0, 11]), (0, [32], [27]), (1, [], [28, 3]), (6, [], [29, 0]), (20, [], [30, 0]), (0, [-1], [31]), (11, [], [36, 32, 0]), (1, [], [33, 2]), (0, [1], [34]), (6, [], [35, 0]), (3, [], [36, 2]), (5, [1], [69, 3]), (1, [], [38, 2]), (24, [], []), (0, [0], [40]), (3, [], [70, 3]), (1, [], [42, 3]), (0, [384], [43]), (11, [], [54, 44, 2]), (2, [], [45, 0]), (18, [], [46, 6, 11]), (1, [], [47, 3]), (20, [], [48, 1, 2]), (10, [], [53, 49, 0]), (1, [], [50, 2]), (0, [1], [51]), (6, [], [52, 0]), (3, [], [53, 2]), (5, [1], [70, 3]), (1, [], [55, 2]), (24, [], []), (2, [], [57, 0]), (18, [], [58, 19, 11]), (24, [], []), (2, [], [60, 0]), (18, [], [61, 10, 11]), (24, [], []), (2, [], [63, 0]), (18, [], [64, 0, 11]), (0, [129], [65]), (20, [], [66, 0]), (24, [], []), (0, [-1], [68]), (24, [], []), (27, [], [0]), (27, [], [1]), (12, [1], [9, 72]), (12, [2], [12, 73]), (12, [3], [15, 74]), (12, [4], [18, 75]), (12, [5], [39, 76]), (12, [6], [56, 77]), (12, [7], [59, 78]), (12, [8], [62, 79]), (13, [], [67])]
def C_X12_count : Con := ([.inr (.inr (some (.inl 0))), .inl (-2147483648, 2147483647)], hc_00245e3b5c, [(some (-2147483648, 2147483647), hc_00245e3b5c)])
def T_X12_count_78 : Tg × Me := (([some (.inr (.inr (some (.inl 0)))), some (.inl (4, 4)), some (.inl (-2147483648, 2147483647)), some (.inl (0, 48))], [], hc_00245e3b5c), (435, [(-1, 0, 3)]))
def T_X12_count_113 : Tg × Me := (([some (.inr (.inr (some (.inl 0)))), some (.inl (5, 5)), some (.inl (-2147483648, 2147483647)), some (.inl (0, 384))], [], hc_00245e3b5c), (385, [(-1, 0, 3)]))
set_option maxRecDepth 100000 in
theorem s_X12_count {l : Launch} : conOk (MetP l 3 yX12_count cX12_count 4 (some .int) 0 0) C_X12_count := by
  intro τ hΦ as h ha hh
  refine m_X12_count (Jc τ T_X12_count_78) (Jc τ T_X12_count_113) (by rw [all2_len ha]; exact Nat.le_of_ble_eq_true rfl) ?_ ?_ ?_
  · exact run0 (τ := τ) (P := P_X12_count) (CE := [T_X12_count_78, T_X12_count_113]) (CS := [C_X12_toldMints, C_X12_toldLetters]) (Ms := [MetP l 0 yX12_toldMints cX12_toldMints 3 (some .int) 0 0, MetP l 2 yX12_toldLetters cX12_toldLetters 3 (some .int) 0 0]) (GS := []) (Mg := []) (T := ((C_X12_count.1.map some ++ List.replicate (4 - 2) none, [], C_X12_count.2.1) : Tg)) (sl := [(0, 1)]) (q := 82) (x := 0) (L := enL as 4) (st := []) (h := h) hΦ (fun j C e => match j, e with | 0, e => (by cases e; exact s_X12_toldMints) | 1, e => (by cases e; exact s_X12_toldLetters) | _ + 2, e => (by cases e)) (fun j g e => match j, e with | _ + 0, e => (by cases e)) (RS := C_X12_count.2.2) (Rv := (fun r h' => ∃ q, q ∈ C_X12_count.2.2 ∧ gR q.1 r ∧ all2 (gC ρ0 τ) q.2 h')) (GR := none) (M := (0, [])) (fun r h' q hq h1 h2 _ => ⟨q, hq, h1, h2⟩) ⟨door ha, trivial, hh⟩ (by decide +kernel)
  · intro μ L st h hJ
    exact runL (τ := τ) (P := P_X12_count) (CE := [T_X12_count_78, T_X12_count_113]) (CS := [C_X12_toldMints, C_X12_toldLetters]) (Ms := [MetP l 0 yX12_toldMints cX12_toldMints 3 (some .int) 0 0, MetP l 2 yX12_toldLetters cX12_toldLetters 3 (some .int) 0 0]) (GS := []) (Mg := []) (Q := T_X12_count_78) (sl := [(0, 1), (0, 2), (0, 3)]) (q := 82) (x := 20) hΦ (fun j C e => match j, e with | 0, e => (by cases e; exact s_X12_toldMints) | 1, e => (by cases e; exact s_X12_toldLetters) | _ + 2, e => (by cases e)) (fun j g e => match j, e with | _ + 0, e => (by cases e)) (RS := C_X12_count.2.2) (Rv := (fun r h' => ∃ q, q ∈ C_X12_count.2.2 ∧ gR q.1 r ∧ all2 (gC ρ0 τ) q.2 h')) (fun r h' q hq h1 h2 => ⟨q, hq, h1, h2⟩) hJ (by decide +kernel)
  · intro μ L st h hJ
    exact runL (τ := τ) (P := P_X12_count) (CE := [T_X12_count_78, T_X12_count_113]) (CS := [C_X12_toldMints, C_X12_toldLetters]) (Ms := [MetP l 0 yX12_toldMints cX12_toldMints 3 (some .int) 0 0, MetP l 2 yX12_toldLetters cX12_toldLetters 3 (some .int) 0 0]) (GS := []) (Mg := []) (Q := T_X12_count_113) (sl := [(0, 1), (0, 2), (0, 3)]) (q := 82) (x := 41) hΦ (fun j C e => match j, e with | 0, e => (by cases e; exact s_X12_toldMints) | 1, e => (by cases e; exact s_X12_toldLetters) | _ + 2, e => (by cases e)) (fun j g e => match j, e with | _ + 0, e => (by cases e)) (RS := C_X12_count.2.2) (Rv := (fun r h' => ∃ q, q ∈ C_X12_count.2.2 ∧ gR q.1 r ∧ all2 (gC ρ0 τ) q.2 h')) (fun r h' q hq h1 h2 => ⟨q, hq, h1, h2⟩) hJ (by decide +kernel)

def P_X12_factOf : List Nd := [(1, [], [1, 0]), (12, [100], [10, 22]), (0, [0], [3]), (24, [], []), (0, [1], [5]), (24, [], []), (0, [2], [7]), (24, [], []), (0, [3], [9]), (24, [], []), (0, [4], [11]), (24, [], []), (0, [5], [13]), (24, [], []), (0, [6], [15]), (24, [], []), (0, [7], [17]), (24, [], []), (0, [8], [19]), (24, [], []), (0, [-1], [21]), (24, [], []), (12, [101], [20, 23]), (12, [102], [20, 24]), (12, [103], [6, 25]), (12, [104], [20, 26]), (12, [105], [20, 27]), (12, [106], [20, 28]), (12, [107], [20, 29]), (12, [108], [14, 30]), (12, [109], [4, 31]), (12, [110], [12, 32]), (12, [111], [20, 33]), (12, [112], [20, 34]), (12, [113], [20, 35]), (12, [114], [20, 36]), (12, [115], [2, 37]), (12, [116], [16, 38]), (12, [117], [8, 39]), (12, [118], [20, 40]), (12, [119], [18, 41]), (13, [], [20])]
def C_X12_factOf : Con := ([.inl (-2147483648, 2147483647)], [], [(some (-2147483648, 2147483647), [])])
set_option maxRecDepth 100000 in
theorem s_X12_factOf {l : Launch} : conOk (MetP l 0 yX12_factOf cX12_factOf 1 (some .int) 0 0) C_X12_factOf := by
  intro τ hΦ as h ha hh
  refine m_X12_factOf  (by rw [all2_len ha]; exact Nat.le_of_ble_eq_true rfl) ?_
  · exact run0 (τ := τ) (P := P_X12_factOf) (CE := []) (CS := []) (Ms := []) (GS := []) (Mg := []) (T := ((C_X12_factOf.1.map some ++ List.replicate (1 - 1) none, [], C_X12_factOf.2.1) : Tg)) (sl := [(0, 0)]) (q := 44) (x := 0) (L := enL as 1) (st := []) (h := h) hΦ (fun j C e => match j, e with | _ + 0, e => (by cases e)) (fun j g e => match j, e with | _ + 0, e => (by cases e)) (RS := C_X12_factOf.2.2) (Rv := (fun r h' => ∃ q, q ∈ C_X12_factOf.2.2 ∧ gR q.1 r ∧ all2 (gC ρ0 τ) q.2 h')) (GR := none) (M := (0, [])) (fun r h' q hq h1 h2 _ => ⟨q, hq, h1, h2⟩) ⟨door ha, trivial, hh⟩ (by decide +kernel)

def P_X12_factOf_n : List Nd := [(1, [], [1, 0]), (12, [100], [10, 22]), (0, [0], [3]), (24, [], []), (0, [1], [5]), (24, [], []), (0, [2], [7]), (24, [], []), (0, [3], [9]), (24, [], []), (0, [4], [11]), (24, [], []), (0, [5], [13]), (24, [], []), (0, [6], [15]), (24, [], []), (0, [7], [17]), (24, [], []), (0, [8], [19]), (24, [], []), (0, [-1], [21]), (24, [], []), (12, [101], [20, 23]), (12, [102], [20, 24]), (12, [103], [6, 25]), (12, [104], [20, 26]), (12, [105], [20, 27]), (12, [106], [20, 28]), (12, [107], [20, 29]), (12, [108], [14, 30]), (12, [109], [4, 31]), (12, [110], [12, 32]), (12, [111], [20, 33]), (12, [112], [20, 34]), (12, [113], [20, 35]), (12, [114], [20, 36]), (12, [115], [2, 37]), (12, [116], [16, 38]), (12, [117], [8, 39]), (12, [118], [20, 40]), (12, [119], [18, 41]), (13, [], [20])]
def C_X12_factOf_n : Con := ([.inl (-2147483648, -1)], [], [(some (-1, -1), [])])
set_option maxRecDepth 100000 in
theorem s_X12_factOf_n {l : Launch} : conOk (MetP l 0 yX12_factOf cX12_factOf 1 (some .int) 0 0) C_X12_factOf_n := by
  intro τ hΦ as h ha hh
  refine m_X12_factOf  (by rw [all2_len ha]; exact Nat.le_of_ble_eq_true rfl) ?_
  · exact run0 (τ := τ) (P := P_X12_factOf_n) (CE := []) (CS := []) (Ms := []) (GS := []) (Mg := []) (T := ((C_X12_factOf_n.1.map some ++ List.replicate (1 - 1) none, [], C_X12_factOf_n.2.1) : Tg)) (sl := [(0, 0)]) (q := 44) (x := 0) (L := enL as 1) (st := []) (h := h) hΦ (fun j C e => match j, e with | _ + 0, e => (by cases e)) (fun j g e => match j, e with | _ + 0, e => (by cases e)) (RS := C_X12_factOf_n.2.2) (Rv := (fun r h' => ∃ q, q ∈ C_X12_factOf_n.2.2 ∧ gR q.1 r ∧ all2 (gC ρ0 τ) q.2 h')) (GR := none) (M := (0, [])) (fun r h' q hq h1 h2 _ => ⟨q, hq, h1, h2⟩) ⟨door ha, trivial, hh⟩ (by decide +kernel)

def P_X12_factOf_p : List Nd := [(1, [], [1, 0]), (12, [100], [10, 22]), (0, [0], [3]), (24, [], []), (0, [1], [5]), (24, [], []), (0, [2], [7]), (24, [], []), (0, [3], [9]), (24, [], []), (0, [4], [11]), (24, [], []), (0, [5], [13]), (24, [], []), (0, [6], [15]), (24, [], []), (0, [7], [17]), (24, [], []), (0, [8], [19]), (24, [], []), (0, [-1], [21]), (24, [], []), (12, [101], [20, 23]), (12, [102], [20, 24]), (12, [103], [6, 25]), (12, [104], [20, 26]), (12, [105], [20, 27]), (12, [106], [20, 28]), (12, [107], [20, 29]), (12, [108], [14, 30]), (12, [109], [4, 31]), (12, [110], [12, 32]), (12, [111], [20, 33]), (12, [112], [20, 34]), (12, [113], [20, 35]), (12, [114], [20, 36]), (12, [115], [2, 37]), (12, [116], [16, 38]), (12, [117], [8, 39]), (12, [118], [20, 40]), (12, [119], [18, 41]), (13, [], [20])]
def C_X12_factOf_p : Con := ([.inl (0, 2147483647)], [], [(some (-1, 8), [])])
set_option maxRecDepth 100000 in
theorem s_X12_factOf_p {l : Launch} : conOk (MetP l 0 yX12_factOf cX12_factOf 1 (some .int) 0 0) C_X12_factOf_p := by
  intro τ hΦ as h ha hh
  refine m_X12_factOf  (by rw [all2_len ha]; exact Nat.le_of_ble_eq_true rfl) ?_
  · exact run0 (τ := τ) (P := P_X12_factOf_p) (CE := []) (CS := []) (Ms := []) (GS := []) (Mg := []) (T := ((C_X12_factOf_p.1.map some ++ List.replicate (1 - 1) none, [], C_X12_factOf_p.2.1) : Tg)) (sl := [(0, 0)]) (q := 44) (x := 0) (L := enL as 1) (st := []) (h := h) hΦ (fun j C e => match j, e with | _ + 0, e => (by cases e)) (fun j g e => match j, e with | _ + 0, e => (by cases e)) (RS := C_X12_factOf_p.2.2) (Rv := (fun r h' => ∃ q, q ∈ C_X12_factOf_p.2.2 ∧ gR q.1 r ∧ all2 (gC ρ0 τ) q.2 h')) (GR := none) (M := (0, [])) (fun r h' q hq h1 h2 _ => ⟨q, hq, h1, h2⟩) ⟨door ha, trivial, hh⟩ (by decide +kernel)

def P_X12_isLess : List Nd := [(1, [], [1, 1]), (0, [-2], [2]), (11, [], [8, 3, 0]), (1, [], [4, 0]), (26, [], [5, 0, 0, 1]), (1, [], [6, 1]), (26, [], [7, 0, 0, 1]), (11, [], [9, 8, 2]), (0, [1], [10]), (0, [0], [10]), (25, [], [])]
def C_X12_isLess : Con := ([.inl (-2147483648, 2147483647), .inl (-2147483648, 2147483647)], [], [(some (0, 1), [])])
set_option maxRecDepth 100000 in
theorem s_X12_isLess {l : Launch} : conOk (MetP l 1 yX12_isLess cX12_isLess 2 (some .boolean) 0 0) C_X12_isLess := by
  intro τ hΦ as h ha hh
  refine m_X12_isLess  (by rw [all2_len ha]; exact Nat.le_of_ble_eq_true rfl) ?_
  · exact run0 (τ := τ) (P := P_X12_isLess) (CE := []) (CS := [C_X12_bits]) (Ms := [MetP l 0 yX12_bits cX12_bits 3 (some .int) 0 0]) (GS := []) (Mg := []) (T := ((C_X12_isLess.1.map some ++ List.replicate (2 - 2) none, [], C_X12_isLess.2.1) : Tg)) (sl := [(0, 0), (0, 1)]) (q := 13) (x := 0) (L := enL as 2) (st := []) (h := h) hΦ (fun j C e => match j, e with | 0, e => (by cases e; exact s_X12_bits) | _ + 1, e => (by cases e)) (fun j g e => match j, e with | _ + 0, e => (by cases e)) (RS := C_X12_isLess.2.2) (Rv := (fun r h' => ∃ q, q ∈ C_X12_isLess.2.2 ∧ gR q.1 r ∧ all2 (gC ρ0 τ) q.2 h')) (GR := none) (M := (0, [])) (fun r h' q hq h1 h2 _ => ⟨q, hq, h1, h2⟩) ⟨door ha, trivial, hh⟩ (by decide +kernel)

def P_X12_takesStamps : List Nd := [(2, [], [1, 0]), (0, [0], [2]), (19, [], [3, 10, 0, 11]), (0, [0], [4]), (3, [], [35, 2]), (1, [], [6, 2]), (1, [], [7, 1]), (11, [], [33, 8, 2]), (2, [], [9, 0]), (1, [], [10, 2]), (26, [-1, -2, -3, 1, 2, -4, -5, -6, -7, -8, -9, -10, -11, -12, -13, -14, -15, -16, -17, -18, -19, -20, -21, -22, -23, -24, -25, 4, -26, -27], [11, 0, 12, 2, 0, 3]), (3, [], [12, 3]), (2, [], [13, 0]), (1, [], [14, 3]), (31, [-1, -2, -3, 1, 2, -4, -5, -6, 3, -7, -8, -9, -10, -11, -12, -13, -14, -15, -16, -17, -18, -19, -20, -21, -22, -23, -24, -25, 4, -26, -27], [25, 16, 0, 12, 2, 0]), (10, [], [25, 16, 0]), (2, [], [17, 0]), (18, [], [18, 3, 11]), (2, [], [19, 0]), (18, [], [20, 4, 11]), (1, [], [21, 3]), (20, [], [22, 0]), (20, [], [23, 0]), (0, [-1], [24]), (11, [], [25, 27, 0]), (0, [0], [26]), (25, [], []), (2, [], [28, 0]), (18, [], [29, 49, 11]), (1, [], [30, 2]), (1, [], [31, 3]), (21, [], [32, 0]), (5, [1], [35, 2]), (0, [1], [34]), (25, [], []), (27, [], [0])]
def C_X12_takesStamps : Con := ([.inr (.inr (some (.inl 0))), .inl (1, 9)], hc_5c745cabc7, [(some (0, 1), hc_5c745cabc7)])
def T_X12_takesStamps_7 : Tg × Me := (([some (.inr (.inr (some (.inl 0)))), some (.inl (1, 9)), some (.inl (0, 9)), none], [], hc_5c745cabc7), (10, [(-1, 0, 2)]))
set_option maxRecDepth 100000 in
theorem s_X12_takesStamps {l : Launch} : conOk (MetP l 2 yX12_takesStamps cX12_takesStamps 4 (some .boolean) 0 0) C_X12_takesStamps := by
  intro τ hΦ as h ha hh
  refine m_X12_takesStamps (Jc τ T_X12_takesStamps_7) (by rw [all2_len ha]; exact Nat.le_of_ble_eq_true rfl) ?_ ?_
  · exact run0 (τ := τ) (P := P_X12_takesStamps) (CE := [T_X12_takesStamps_7]) (CS := [C_X12_octet]) (Ms := [MetP l 0 yX12_octet cX12_octet 2 (some .int) 0 0]) (GS := [(G_X12_isStamp, 1, 0, 47)]) (Mg := [MetP l 1 yX12_isStamp cX12_isStamp 2 (some .boolean) 0 0]) (T := ((C_X12_takesStamps.1.map some ++ List.replicate (4 - 2) none, [], C_X12_takesStamps.2.1) : Tg)) (sl := [(0, 1)]) (q := 38) (x := 0) (L := enL as 4) (st := []) (h := h) hΦ (fun j C e => match j, e with | 0, e => (by cases e; exact s_X12_octet) | _ + 1, e => (by cases e)) (fun j g e => match j, e with | 0, e => (by cases e; exact gd_X12_isStamp) | _ + 1, e => (by cases e)) (RS := C_X12_takesStamps.2.2) (Rv := (fun r h' => ∃ q, q ∈ C_X12_takesStamps.2.2 ∧ gR q.1 r ∧ all2 (gC ρ0 τ) q.2 h')) (GR := none) (M := (0, [])) (fun r h' q hq h1 h2 _ => ⟨q, hq, h1, h2⟩) ⟨door ha, trivial, hh⟩ (by decide +kernel)
  · intro μ L st h hJ
    exact runL (τ := τ) (P := P_X12_takesStamps) (CE := [T_X12_takesStamps_7]) (CS := [C_X12_octet]) (Ms := [MetP l 0 yX12_octet cX12_octet 2 (some .int) 0 0]) (GS := [(G_X12_isStamp, 1, 0, 47)]) (Mg := [MetP l 1 yX12_isStamp cX12_isStamp 2 (some .boolean) 0 0]) (Q := T_X12_takesStamps_7) (sl := [(0, 1), (0, 2)]) (q := 38) (x := 5) hΦ (fun j C e => match j, e with | 0, e => (by cases e; exact s_X12_octet) | _ + 1, e => (by cases e)) (fun j g e => match j, e with | 0, e => (by cases e; exact gd_X12_isStamp) | _ + 1, e => (by cases e)) (RS := C_X12_takesStamps.2.2) (Rv := (fun r h' => ∃ q, q ∈ C_X12_takesStamps.2.2 ∧ gR q.1 r ∧ all2 (gC ρ0 τ) q.2 h')) (fun r h' q hq h1 h2 => ⟨q, hq, h1, h2⟩) hJ (by decide +kernel)

def P_X12_falseOnes : List Nd := [(1, [], [1, 1]), (0, [1], [2]), (0, [9], [3]), (31, [], [27, 5, 0, 0, 3]), (10, [], [27, 5, 0]), (1, [], [6, 2]), (31, [], [27, 8, 1, 0, 1]), (10, [], [27, 8, 0]), (1, [], [9, 3]), (0, [-1], [10]), (0, [1], [11]), (31, [], [27, 13, 2, 0, 3]), (10, [], [27, 13, 0]), (1, [], [14, 4]), (0, [-1], [15]), (0, [1], [16]), (31, [], [27, 18, 2, 0, 3]), (10, [], [27, 18, 0]), (1, [], [19, 5]), (0, [0], [20]), (0, [1], [21]), (31, [], [27, 23, 3, 0, 3]), (10, [], [27, 23, 0]), (1, [], [24, 1]), (2, [], [25, 0]), (18, [], [26, 10, 11]), (11, [], [29, 27, 4]), (0, [-1], [28]), (24, [], []), (2, [], [30, 0]), (1, [], [31, 1]), (26, [-1, -2, -3, 3, -4, -5, -6, -7, -8, -9, -10, -11, -12, -13, -14, -15, -16, -17, -18, -19, -20, -21, -22, -23, -24, -25, -26], [32, 0, 12, 2, 0, 1, 2, 4, 5]), (10, [], [33, 35, 0]), (0, [-3], [34]), (24, [], []), (0, [0], [36]), (3, [], [37, 6]), (0, [0], [38]), (3, [], [133, 7]), (1, [], [40, 7]), (1, [], [41, 1]), (11, [], [57, 42, 2]), (2, [], [43, 0]), (18, [], [44, 5, 11]), (2, [], [45, 0]), (18, [], [46, 49, 11]), (1, [], [47, 7]), (20, [], [48, 0]), (20, [], [49, 0]), (10, [], [50, 56, 0]), (1, [], [51, 6]), (0, [1], [52]), (1, [], [53, 7]), (6, [], [54, 6]), (6, [], [55, 4]), (3, [], [56, 6]), (5, [1], [133, 7]), (0, [-2], [58]), (3, [], [59, 7]), (0, [0], [60]), (3, [], [134, 8]), (1, [], [62, 8]), (0, [1], [63]), (1, [], [64, 1]), (6, [], [65, 6]), (11, [], [123, 66, 2]), (1, [], [67, 8]), (1, [], [68, 6]), (6, [], [69, 3]), (10, [], [70, 122, 0]), (1, [], [71, 8]), (1, [], [72, 7]), (26, [], [73, 1, 0, 2]), (10, [], [122, 74, 0]), (2, [], [75, 0]), (1, [], [76, 8]), (0, [-1], [77]), (6, [], [78, 5]), (1, [], [79, 1]), (1, [], [80, 2]), (0, [1], [81]), (26, [-1, -2, -3, -4, -5, 4, -6, -7, -8, -9, -10, -11, -12, -13, -14, -15, -16, -17, -18, -19, -20, -21, -22, -23, -24, -25, -26], [82, 2, 12, 5, 0, 1, 2, 3, 5]), (3, [], [83, 9]), (2, [], [84, 0]), (1, [], [85, 8]), (0, [-1], [86]), (6, [], [87, 5]), (1, [], [88, 1]), (1, [], [89, 2]), (0, [0], [90]), (26, [-1, -2, -3, -4, -5, 4, -6, -7, -8, -9, -10, -11, -12, -13, -14, -15, -16, -17, -18, -19, -20, -21, -22, -23, -24, -25, -26], [91, 2, 12, 5, 0, 1, 2, 3, 5]), (3, [], [92, 10]), (1, [], [93, 9]), (10, [], [100, 94, 0]), (1, [], [95, 9]), (26, [], [96, 3, 0, 1]), (1, [], [97, 10]), (26, [], [98, 3, 0, 1]), (11, [], [100, 99, 1]), (0, [1], [101]), (0, [0], [101]), (3, [], [102, 11]), (1, [], [103, 11]), (10, [], [106, 104, 0]), (1, [], [105, 9]), (26, [], [107, 4, 0, 1]), (0, [0], [107]), (3, [], [108, 12]), (1, [], [109, 11]), (10, [], [111, 110, 0]), (0, [0], [113]), (1, [], [112, 10]), (26, [], [113, 4, 0, 1]), (3, [], [114, 13]), (1, [], [115, 12]), (1, [], [116, 3]), (11, [], [117, 122, 0]), (1, [], [118, 13]), (1, [], [119, 4]), (11, [], [120, 122, 0]), (1, [], [121, 8]), (3, [], [122, 7]), (5, [1], [134, 8]), (1, [], [124, 5]), (0, [1], [125]), (11, [], [129, 126, 0]), (1, [], [127, 7]), (0, [-2], [128]), (11, [], [129, 130, 0]), (1, [], [132, 7]), (1, [], [131, 7]), (26, [], [132, 5, 0, 1]), (24, [], []), (27, [], [0]), (27, [], [1])]
def C_X12_falseOnes : Con := ([.inr (.inr (some (.inl 0))), .inl (-2147483648, 2147483647), .inl (-2147483648, 2147483647), .inl (-2147483648, 2147483647), .inl (-2147483648, 2147483647), .inl (-2147483648, 2147483647)], hc_5f664be027, [(some (-2147483648, 2147483647), hc_5f664be027)])
def T_X12_falseOnes_73 : Tg × Me := (([some (.inr (.inr (some (.inl 0)))), some (.inl (1, 9)), some (.inl (0, 383)), some (.inl (-1, 1)), some (.inl (-1, 1)), some (.inl (0, 1)), some (.inl (-2147483648, 2147483647)), some (.inl (0, 9)), none, none, none, none, none, none], [], hc_5f664be027), (612, [(-1, 0, 7)]))
def T_X12_falseOnes_116 : Tg × Me := (([some (.inr (.inr (some (.inl 0)))), some (.inl (1, 9)), some (.inl (0, 383)), some (.inl (-1, 1)), some (.inl (-1, 1)), some (.inl (0, 1)), some (.inl (-2147483648, 2147483647)), some (.inl (-2, 600)), some (.inl (0, 600)), none, none, none, none, none], [], hc_5f664be027), (601, [(-1, 0, 8)]))
set_option maxRecDepth 100000 in
theorem s_X12_falseOnes {l : Launch} : conOk (MetP l 3 yX12_falseOnes cX12_falseOnes 14 (some .int) 0 0) C_X12_falseOnes := by
  intro τ hΦ as h ha hh
  refine m_X12_falseOnes (Jc τ T_X12_falseOnes_73) (Jc τ T_X12_falseOnes_116) (by rw [all2_len ha]; exact Nat.le_of_ble_eq_true rfl) ?_ ?_ ?_
  · exact run0 (τ := τ) (P := P_X12_falseOnes) (CE := [T_X12_falseOnes_73, T_X12_falseOnes_116]) (CS := [C_X12_takesStamps, C_X12_isLess, C_X12_pullOf, C_X12_size, C_X12_sign, C_X12_bits]) (Ms := [MetP l 2 yX12_takesStamps cX12_takesStamps 4 (some .boolean) 0 0, MetP l 1 yX12_isLess cX12_isLess 2 (some .boolean) 0 0, MetP l 2 yX12_pullOf cX12_pullOf 8 (some .int) 0 0, MetP l 0 yX12_size cX12_size 1 (some .int) 0 0, MetP l 0 yX12_sign cX12_sign 1 (some .int) 0 0, MetP l 0 yX12_bits cX12_bits 3 (some .int) 0 0]) (GS := [(([topA, .inl (1, 2147483647), .inl (-2147483648, 9)], [], some (0, 1), []), 0, 1, 9), (([topA], [], some (0, 1), []), 0, 0, 383), (([topA, .inl (-1, 2147483647), .inl (-2147483648, 1)], [], some (0, 1), []), 0, -1, 1), (([topA, .inl (0, 2147483647), .inl (-2147483648, 1)], [], some (0, 1), []), 0, 0, 1)]) (Mg := [MetP l 0 yX12_in cX12_in 3 (some .boolean) 0 0, MetP l 1 yX12_isPlace cX12_isPlace 1 (some .boolean) 0 0, MetP l 0 yX12_in cX12_in 3 (some .boolean) 0 0, MetP l 0 yX12_in cX12_in 3 (some .boolean) 0 0]) (T := ((C_X12_falseOnes.1.map some ++ List.replicate (14 - 6) none, [], C_X12_falseOnes.2.1) : Tg)) (sl := [(0, 1), (0, 2), (0, 3), (0, 4), (0, 5)]) (q := 137) (x := 0) (L := enL as 14) (st := []) (h := h) hΦ (fun j C e => match j, e with | 0, e => (by cases e; exact s_X12_takesStamps) | 1, e => (by cases e; exact s_X12_isLess) | 2, e => (by cases e; exact s_X12_pullOf) | 3, e => (by cases e; exact s_X12_size) | 4, e => (by cases e; exact s_X12_sign) | 5, e => (by cases e; exact s_X12_bits) | _ + 6, e => (by cases e)) (fun j g e => match j, e with | 0, e => (by cases e; exact gd_in (1) (9)) | 1, e => (by cases e; exact gd_misPlace) | 2, e => (by cases e; exact gd_in (-1) (1)) | 3, e => (by cases e; exact gd_in (0) (1)) | _ + 4, e => (by cases e)) (RS := C_X12_falseOnes.2.2) (Rv := (fun r h' => ∃ q, q ∈ C_X12_falseOnes.2.2 ∧ gR q.1 r ∧ all2 (gC ρ0 τ) q.2 h')) (GR := none) (M := (0, [])) (fun r h' q hq h1 h2 _ => ⟨q, hq, h1, h2⟩) ⟨door ha, trivial, hh⟩ (by decide +kernel)
  · intro μ L st h hJ
    exact runL (τ := τ) (P := P_X12_falseOnes) (CE := [T_X12_falseOnes_73, T_X12_falseOnes_116]) (CS := [C_X12_takesStamps, C_X12_isLess, C_X12_pullOf, C_X12_size, C_X12_sign, C_X12_bits]) (Ms := [MetP l 2 yX12_takesStamps cX12_takesStamps 4 (some .boolean) 0 0, MetP l 1 yX12_isLess cX12_isLess 2 (some .boolean) 0 0, MetP l 2 yX12_pullOf cX12_pullOf 8 (some .int) 0 0, MetP l 0 yX12_size cX12_size 1 (some .int) 0 0, MetP l 0 yX12_sign cX12_sign 1 (some .int) 0 0, MetP l 0 yX12_bits cX12_bits 3 (some .int) 0 0]) (GS := [(([topA, .inl (1, 2147483647), .inl (-2147483648, 9)], [], some (0, 1), []), 0, 1, 9), (([topA], [], some (0, 1), []), 0, 0, 383), (([topA, .inl (-1, 2147483647), .inl (-2147483648, 1)], [], some (0, 1), []), 0, -1, 1), (([topA, .inl (0, 2147483647), .inl (-2147483648, 1)], [], some (0, 1), []), 0, 0, 1)]) (Mg := [MetP l 0 yX12_in cX12_in 3 (some .boolean) 0 0, MetP l 1 yX12_isPlace cX12_isPlace 1 (some .boolean) 0 0, MetP l 0 yX12_in cX12_in 3 (some .boolean) 0 0, MetP l 0 yX12_in cX12_in 3 (some .boolean) 0 0]) (Q := T_X12_falseOnes_73) (sl := [(0, 1), (0, 2), (0, 3), (0, 4), (0, 5), (0, 6), (0, 7)]) (q := 137) (x := 39) hΦ (fun j C e => match j, e with | 0, e => (by cases e; exact s_X12_takesStamps) | 1, e => (by cases e; exact s_X12_isLess) | 2, e => (by cases e; exact s_X12_pullOf) | 3, e => (by cases e; exact s_X12_size) | 4, e => (by cases e; exact s_X12_sign) | 5, e => (by cases e; exact s_X12_bits) | _ + 6, e => (by cases e)) (fun j g e => match j, e with | 0, e => (by cases e; exact gd_in (1) (9)) | 1, e => (by cases e; exact gd_misPlace) | 2, e => (by cases e; exact gd_in (-1) (1)) | 3, e => (by cases e; exact gd_in (0) (1)) | _ + 4, e => (by cases e)) (RS := C_X12_falseOnes.2.2) (Rv := (fun r h' => ∃ q, q ∈ C_X12_falseOnes.2.2 ∧ gR q.1 r ∧ all2 (gC ρ0 τ) q.2 h')) (fun r h' q hq h1 h2 => ⟨q, hq, h1, h2⟩) hJ (by decide +kernel)
  · intro μ L st h hJ
    exact runL (τ := τ) (P := P_X12_falseOnes) (CE := [T_X12_falseOnes_73, T_X12_falseOnes_116]) (CS := [C_X12_takesStamps, C_X12_isLess, C_X12_pullOf, C_X12_size, C_X12_sign, C_X12_bits]) (Ms := [MetP l 2 yX12_takesStamps cX12_takesStamps 4 (some .boolean) 0 0, MetP l 1 yX12_isLess cX12_isLess 2 (some .boolean) 0 0, MetP l 2 yX12_pullOf cX12_pullOf 8 (some .int) 0 0, MetP l 0 yX12_size cX12_size 1 (some .int) 0 0, MetP l 0 yX12_sign cX12_sign 1 (some .int) 0 0, MetP l 0 yX12_bits cX12_bits 3 (some .int) 0 0]) (GS := [(([topA, .inl (1, 2147483647), .inl (-2147483648, 9)], [], some (0, 1), []), 0, 1, 9), (([topA], [], some (0, 1), []), 0, 0, 383), (([topA, .inl (-1, 2147483647), .inl (-2147483648, 1)], [], some (0, 1), []), 0, -1, 1), (([topA, .inl (0, 2147483647), .inl (-2147483648, 1)], [], some (0, 1), []), 0, 0, 1)]) (Mg := [MetP l 0 yX12_in cX12_in 3 (some .boolean) 0 0, MetP l 1 yX12_isPlace cX12_isPlace 1 (some .boolean) 0 0, MetP l 0 yX12_in cX12_in 3 (some .boolean) 0 0, MetP l 0 yX12_in cX12_in 3 (some .boolean) 0 0]) (Q := T_X12_falseOnes_116) (sl := [(0, 1), (0, 2), (0, 3), (0, 4), (0, 5), (0, 6), (0, 7), (0, 8)]) (q := 137) (x := 61) hΦ (fun j C e => match j, e with | 0, e => (by cases e; exact s_X12_takesStamps) | 1, e => (by cases e; exact s_X12_isLess) | 2, e => (by cases e; exact s_X12_pullOf) | 3, e => (by cases e; exact s_X12_size) | 4, e => (by cases e; exact s_X12_sign) | 5, e => (by cases e; exact s_X12_bits) | _ + 6, e => (by cases e)) (fun j g e => match j, e with | 0, e => (by cases e; exact gd_in (1) (9)) | 1, e => (by cases e; exact gd_misPlace) | 2, e => (by cases e; exact gd_in (-1) (1)) | 3, e => (by cases e; exact gd_in (0) (1)) | _ + 4, e => (by cases e)) (RS := C_X12_falseOnes.2.2) (Rv := (fun r h' => ∃ q, q ∈ C_X12_falseOnes.2.2 ∧ gR q.1 r ∧ all2 (gC ρ0 τ) q.2 h')) (fun r h' q hq h1 h2 => ⟨q, hq, h1, h2⟩) hJ (by decide +kernel)

def P_X12_types_240 : List Nd := [(0, [3], [1]), (3, [], [23, 2]), (1, [], [3, 2]), (10, [], [22, 4, 1]), (2, [], [5, 0]), (18, [], [6, 9, 11]), (2, [], [7, 0]), (18, [], [8, 10, 11]), (1, [], [9, 1]), (0, [8], [10]), (1, [], [11, 2]), (6, [], [12, 2]), (6, [], [13, 7]), (7, [], [14, 1]), (21, [], [15, 1, 2]), (2, [], [16, 0]), (2, [], [17, 0]), (18, [], [18, 10, 11]), (0, [1], [19]), (6, [], [20, 0]), (19, [], [21, 10, 0, 11]), (5, [-1], [23, 2]), (23, [], []), (27, [], [0])]
def C_X12_types_240 : Con := ([.inr (.inr (some (.inl 0))), .inl (-2147483648, 2147483647)], [.inr (11, [.inr (.inr (some (.inr 0))), .inr (.inr (some (.inr 1))), .inr (.inr (some (.inr 2))), .inr (.inr (some (.inr 3))), .inr (.inr (some (.inr 4))), .inr (.inr (some (.inr 5))), .inr (.inr (some (.inr 6))), .inr (.inr (some (.inr 7))), .inl (0, 48), .inr (.inr (some (.inl 1))), .inl (0, 240), .inl (0, 240), .inl (0, 240), .inl (-2147483648, 2147483647), .inl (-2147483648, 2147483647), .inl (-2147483648, 2147483647), .inl (0, 260), .inl (0, 260), .inl (0, 16), .inr (.inr (some (.inr 200))), .inr (.inr (some (.inr 8))), .inr (.inr (some (.inr 9))), .inr (.inr (some (.inr 10))), .inr (.inr (some (.inr 11))), .inr (.inr (some (.inr 12))), .inr (.inr (some (.inr 13))), .inr (.inr (some (.inr 14))), .inr (.inr (some (.inr 15))), .inr (.inr (some (.inr 16))), .inr (.inr (some (.inr 17))), .inr (.inr (some (.inr 18))), .inr (.inr (some (.inr 19))), .inr (.inr (some (.inr 20))), .inr (.inr (some (.inr 21))), .inr (.inr (some (.inr 22))), .inr (.inr (some (.inr 23))), .inr (.inr (some (.inr 24))), .inl (-2147483648, 2147483647), .inl (-2147483648, 2147483647), .inl (-2147483648, 2147483647), .inl (-2147483648, 2147483647), .inl (-2147483648, 2147483647), .inl (-2147483648, 2147483647), .inl (-2147483648, 2147483647), .inl (-2147483648, 2147483647), .inl (-2147483648, 2147483647), .inl (-2147483648, 2147483647), .inr (.inr (some (.inr 25))), .inr (.inr (some (.inr 26))), .inr (.inr (some (.inr 27))), .inr (.inr (some (.inr 28))), .inr (.inr (some (.inr 29))), .inr (.inr (some (.inr 201)))]), .inl (1, 260, -128, 127)], [(none, hc_8515b9ef0d)])
def U_X12_types_240 (j : Nat) : Tg := ([some (.inr (.inr (some (.inl 0)))), some (.inl (-2147483648, 2147483647)), some (.inl ((3 - j : Int), (3 - j : Int)))], [], [.inr (11, [.inr (.inr (some (.inr 0))), .inr (.inr (some (.inr 1))), .inr (.inr (some (.inr 2))), .inr (.inr (some (.inr 3))), .inr (.inr (some (.inr 4))), .inr (.inr (some (.inr 5))), .inr (.inr (some (.inr 6))), .inr (.inr (some (.inr 7))), .inl (0, 48), .inr (.inr (some (.inl 1))), .inl ((0 + j : Int), (240 + j : Int)), .inl (0, 240), .inl (0, 240), .inl (-2147483648, 2147483647), .inl (-2147483648, 2147483647), .inl (-2147483648, 2147483647), .inl (0, 260), .inl (0, 260), .inl (0, 16), .inr (.inr (some (.inr 200))), .inr (.inr (some (.inr 8))), .inr (.inr (some (.inr 9))), .inr (.inr (some (.inr 10))), .inr (.inr (some (.inr 11))), .inr (.inr (some (.inr 12))), .inr (.inr (some (.inr 13))), .inr (.inr (some (.inr 14))), .inr (.inr (some (.inr 15))), .inr (.inr (some (.inr 16))), .inr (.inr (some (.inr 17))), .inr (.inr (some (.inr 18))), .inr (.inr (some (.inr 19))), .inr (.inr (some (.inr 20))), .inr (.inr (some (.inr 21))), .inr (.inr (some (.inr 22))), .inr (.inr (some (.inr 23))), .inr (.inr (some (.inr 24))), .inl (-2147483648, 2147483647), .inl (-2147483648, 2147483647), .inl (-2147483648, 2147483647), .inl (-2147483648, 2147483647), .inl (-2147483648, 2147483647), .inl (-2147483648, 2147483647), .inl (-2147483648, 2147483647), .inl (-2147483648, 2147483647), .inl (-2147483648, 2147483647), .inl (-2147483648, 2147483647), .inr (.inr (some (.inr 25))), .inr (.inr (some (.inr 26))), .inr (.inr (some (.inr 27))), .inr (.inr (some (.inr 28))), .inr (.inr (some (.inr 29))), .inr (.inr (some (.inr 201)))]), .inl (1, 260, -128, 127)])
def V_X12_types_240 (j : Nat) : List (Tg × Me) := match Nat.blt (j + 1) 5 with
  | true => [(U_X12_types_240 (j + 1), (0, []))]
  | false => []
set_option maxRecDepth 100000 in
theorem s_X12_types_240 {l : Launch} : conOk (MetP l 0 yX12_types cX12_types 3 none 0 0) C_X12_types_240 := by
  intro τ hΦ as h ha hh
  refine m_X12_types (fun (μ : Nat) (L : PL) (st : List PV) (h : PH) => ∃ j, j < 5 ∧ μ = 5 - j ∧ gI τ (U_X12_types_240 j) L st h) (by rw [all2_len ha]; exact Nat.le_of_ble_eq_true rfl) ?_ ?_
  · exact runG (τ := τ) (cuts := [exb (fun (μ : Nat) (L : PL) (st : List PV) (h : PH) => ∃ j, j < 5 ∧ μ = 5 - j ∧ gI τ (U_X12_types_240 j) L st h)]) (CE := [(U_X12_types_240 0, (0, []))]) (P := P_X12_types_240) (CS := []) (Ms := []) (GS := []) (Mg := []) (RS := C_X12_types_240.2.2) (Rv := (fun r h' => ∃ q, q ∈ C_X12_types_240.2.2 ∧ gR q.1 r ∧ all2 (gC ρ0 τ) q.2 h')) (q := 26) (T := ((C_X12_types_240.1.map some ++ List.replicate (3 - 2) none, [], C_X12_types_240.2.1) : Tg)) (sl := [(0, 1)]) (x := 0) (L := enL as 3) (st := []) (h := h) hΦ (fun j q e L st h hg => match j, e with | 0, e => (by cases e; exact ⟨5, 0, by omega, rfl, hg⟩) | _ + 1, e => (by cases e)) (fun j C e => match j, e with | _ + 0, e => (by cases e)) (fun j g e => match j, e with | _ + 0, e => (by cases e)) (fun r h' q hq h1 h2 => ⟨q, hq, h1, h2⟩) ⟨door ha, trivial, hh⟩ (by decide +kernel)
  · intro μ L st h hJ
    obtain ⟨j, hj, hμ, hI⟩ := hJ
    have hall : ∀ j, j < 5 → blkC (U_X12_types_240 j) (0, []) [(0, 1), (0, 2)] (chk P_X12_types_240 (V_X12_types_240 j) false [] [] none C_X12_types_240.2.2 26 2) = true := by decide +kernel
    exact runG (τ := τ) (cuts := [ltb (fun (μ : Nat) (L : PL) (st : List PV) (h : PH) => ∃ j, j < 5 ∧ μ = 5 - j ∧ gI τ (U_X12_types_240 j) L st h) μ]) (CE := V_X12_types_240 j) (P := P_X12_types_240) (CS := []) (Ms := []) (GS := []) (Mg := []) (RS := C_X12_types_240.2.2) (Rv := (fun r h' => ∃ q, q ∈ C_X12_types_240.2.2 ∧ gR q.1 r ∧ all2 (gC ρ0 τ) q.2 h')) (q := 26) (T := U_X12_types_240 j) (sl := [(0, 1), (0, 2)]) (x := 2) hΦ (fun i q e L st h hg => by
      unfold V_X12_types_240 at e
      split at e
      · rename_i hb
        have hb := Nat.blt_eq.mp hb
        match i, e with
        | 0, e => cases e; exact ⟨5 - (j + 1), by omega, j + 1, by omega, rfl, hg⟩
        | _ + 1, e => cases e
      · cases e) (fun j C e => match j, e with | _ + 0, e => (by cases e)) (fun j g e => match j, e with | _ + 0, e => (by cases e)) (fun r h' q hq h1 h2 => ⟨q, hq, h1, h2⟩) hI (hall j hj)

def P_X12_types_244 : List Nd := [(0, [3], [1]), (3, [], [23, 2]), (1, [], [3, 2]), (10, [], [22, 4, 1]), (2, [], [5, 0]), (18, [], [6, 9, 11]), (2, [], [7, 0]), (18, [], [8, 10, 11]), (1, [], [9, 1]), (0, [8], [10]), (1, [], [11, 2]), (6, [], [12, 2]), (6, [], [13, 7]), (7, [], [14, 1]), (21, [], [15, 1, 2]), (2, [], [16, 0]), (2, [], [17, 0]), (18, [], [18, 10, 11]), (0, [1], [19]), (6, [], [20, 0]), (19, [], [21, 10, 0, 11]), (5, [-1], [23, 2]), (23, [], []), (27, [], [0])]
def C_X12_types_244 : Con := ([.inr (.inr (some (.inl 0))), .inl (-2147483648, 2147483647)], hc_8515b9ef0d, [(none, hc_efc8a46aa1)])
def U_X12_types_244 (j : Nat) : Tg := ([some (.inr (.inr (some (.inl 0)))), some (.inl (-2147483648, 2147483647)), some (.inl ((3 - j : Int), (3 - j : Int)))], [], [.inr (11, [.inr (.inr (some (.inr 0))), .inr (.inr (some (.inr 1))), .inr (.inr (some (.inr 2))), .inr (.inr (some (.inr 3))), .inr (.inr (some (.inr 4))), .inr (.inr (some (.inr 5))), .inr (.inr (some (.inr 6))), .inr (.inr (some (.inr 7))), .inl (0, 48), .inr (.inr (some (.inl 1))), .inl ((0 + j : Int), (244 + j : Int)), .inl (0, 240), .inl (0, 240), .inl (-2147483648, 2147483647), .inl (-2147483648, 2147483647), .inl (-2147483648, 2147483647), .inl (0, 260), .inl (0, 260), .inl (0, 16), .inr (.inr (some (.inr 200))), .inr (.inr (some (.inr 8))), .inr (.inr (some (.inr 9))), .inr (.inr (some (.inr 10))), .inr (.inr (some (.inr 11))), .inr (.inr (some (.inr 12))), .inr (.inr (some (.inr 13))), .inr (.inr (some (.inr 14))), .inr (.inr (some (.inr 15))), .inr (.inr (some (.inr 16))), .inr (.inr (some (.inr 17))), .inr (.inr (some (.inr 18))), .inr (.inr (some (.inr 19))), .inr (.inr (some (.inr 20))), .inr (.inr (some (.inr 21))), .inr (.inr (some (.inr 22))), .inr (.inr (some (.inr 23))), .inr (.inr (some (.inr 24))), .inl (-2147483648, 2147483647), .inl (-2147483648, 2147483647), .inl (-2147483648, 2147483647), .inl (-2147483648, 2147483647), .inl (-2147483648, 2147483647), .inl (-2147483648, 2147483647), .inl (-2147483648, 2147483647), .inl (-2147483648, 2147483647), .inl (-2147483648, 2147483647), .inl (-2147483648, 2147483647), .inr (.inr (some (.inr 25))), .inr (.inr (some (.inr 26))), .inr (.inr (some (.inr 27))), .inr (.inr (some (.inr 28))), .inr (.inr (some (.inr 29))), .inr (.inr (some (.inr 201)))]), .inl (1, 260, -128, 127)])
def V_X12_types_244 (j : Nat) : List (Tg × Me) := match Nat.blt (j + 1) 5 with
  | true => [(U_X12_types_244 (j + 1), (0, []))]
  | false => []
set_option maxRecDepth 100000 in
theorem s_X12_types_244 {l : Launch} : conOk (MetP l 0 yX12_types cX12_types 3 none 0 0) C_X12_types_244 := by
  intro τ hΦ as h ha hh
  refine m_X12_types (fun (μ : Nat) (L : PL) (st : List PV) (h : PH) => ∃ j, j < 5 ∧ μ = 5 - j ∧ gI τ (U_X12_types_244 j) L st h) (by rw [all2_len ha]; exact Nat.le_of_ble_eq_true rfl) ?_ ?_
  · exact runG (τ := τ) (cuts := [exb (fun (μ : Nat) (L : PL) (st : List PV) (h : PH) => ∃ j, j < 5 ∧ μ = 5 - j ∧ gI τ (U_X12_types_244 j) L st h)]) (CE := [(U_X12_types_244 0, (0, []))]) (P := P_X12_types_244) (CS := []) (Ms := []) (GS := []) (Mg := []) (RS := C_X12_types_244.2.2) (Rv := (fun r h' => ∃ q, q ∈ C_X12_types_244.2.2 ∧ gR q.1 r ∧ all2 (gC ρ0 τ) q.2 h')) (q := 26) (T := ((C_X12_types_244.1.map some ++ List.replicate (3 - 2) none, [], C_X12_types_244.2.1) : Tg)) (sl := [(0, 1)]) (x := 0) (L := enL as 3) (st := []) (h := h) hΦ (fun j q e L st h hg => match j, e with | 0, e => (by cases e; exact ⟨5, 0, by omega, rfl, hg⟩) | _ + 1, e => (by cases e)) (fun j C e => match j, e with | _ + 0, e => (by cases e)) (fun j g e => match j, e with | _ + 0, e => (by cases e)) (fun r h' q hq h1 h2 => ⟨q, hq, h1, h2⟩) ⟨door ha, trivial, hh⟩ (by decide +kernel)
  · intro μ L st h hJ
    obtain ⟨j, hj, hμ, hI⟩ := hJ
    have hall : ∀ j, j < 5 → blkC (U_X12_types_244 j) (0, []) [(0, 1), (0, 2)] (chk P_X12_types_244 (V_X12_types_244 j) false [] [] none C_X12_types_244.2.2 26 2) = true := by decide +kernel
    exact runG (τ := τ) (cuts := [ltb (fun (μ : Nat) (L : PL) (st : List PV) (h : PH) => ∃ j, j < 5 ∧ μ = 5 - j ∧ gI τ (U_X12_types_244 j) L st h) μ]) (CE := V_X12_types_244 j) (P := P_X12_types_244) (CS := []) (Ms := []) (GS := []) (Mg := []) (RS := C_X12_types_244.2.2) (Rv := (fun r h' => ∃ q, q ∈ C_X12_types_244.2.2 ∧ gR q.1 r ∧ all2 (gC ρ0 τ) q.2 h')) (q := 26) (T := U_X12_types_244 j) (sl := [(0, 1), (0, 2)]) (x := 2) hΦ (fun i q e L st h hg => by
      unfold V_X12_types_244 at e
      split at e
      · rename_i hb
        have hb := Nat.blt_eq.mp hb
        match i, e with
        | 0, e => cases e; exact ⟨5 - (j + 1), by omega, j + 1, by omega, rfl, hg⟩
        | _ + 1, e => cases e
      · cases e) (fun j C e => match j, e with | _ + 0, e => (by cases e)) (fun j g e => match j, e with | _ + 0, e => (by cases e)) (fun r h' q hq h1 h2 => ⟨q, hq, h1, h2⟩) hI (hall j hj)

def P_X12_types_248 : List Nd := [(0, [3], [1]), (3, [], [23, 2]), (1, [], [3, 2]), (10, [], [22, 4, 1]), (2, [], [5, 0]), (18, [], [6, 9, 11]), (2, [], [7, 0]), (18, [], [8, 10, 11]), (1, [], [9, 1]), (0, [8], [10]), (1, [], [11, 2]), (6, [], [12, 2]), (6, [], [13, 7]), (7, [], [14, 1]), (21, [], [15, 1, 2]), (2, [], [16, 0]), (2, [], [17, 0]), (18, [], [18, 10, 11]), (0, [1], [19]), (6, [], [20, 0]), (19, [], [21, 10, 0, 11]), (5, [-1], [23, 2]), (23, [], []), (27, [], [0])]
def C_X12_types_248 : Con := ([.inr (.inr (some (.inl 0))), .inl (-2147483648, 2147483647)], hc_efc8a46aa1, [(none, hc_9e1bbb7baa)])
def U_X12_types_248 (j : Nat) : Tg := ([some (.inr (.inr (some (.inl 0)))), some (.inl (-2147483648, 2147483647)), some (.inl ((3 - j : Int), (3 - j : Int)))], [], [.inr (11, [.inr (.inr (some (.inr 0))), .inr (.inr (some (.inr 1))), .inr (.inr (some (.inr 2))), .inr (.inr (some (.inr 3))), .inr (.inr (some (.inr 4))), .inr (.inr (some (.inr 5))), .inr (.inr (some (.inr 6))), .inr (.inr (some (.inr 7))), .inl (0, 48), .inr (.inr (some (.inl 1))), .inl ((0 + j : Int), (248 + j : Int)), .inl (0, 240), .inl (0, 240), .inl (-2147483648, 2147483647), .inl (-2147483648, 2147483647), .inl (-2147483648, 2147483647), .inl (0, 260), .inl (0, 260), .inl (0, 16), .inr (.inr (some (.inr 200))), .inr (.inr (some (.inr 8))), .inr (.inr (some (.inr 9))), .inr (.inr (some (.inr 10))), .inr (.inr (some (.inr 11))), .inr (.inr (some (.inr 12))), .inr (.inr (some (.inr 13))), .inr (.inr (some (.inr 14))), .inr (.inr (some (.inr 15))), .inr (.inr (some (.inr 16))), .inr (.inr (some (.inr 17))), .inr (.inr (some (.inr 18))), .inr (.inr (some (.inr 19))), .inr (.inr (some (.inr 20))), .inr (.inr (some (.inr 21))), .inr (.inr (some (.inr 22))), .inr (.inr (some (.inr 23))), .inr (.inr (some (.inr 24))), .inl (-2147483648, 2147483647), .inl (-2147483648, 2147483647), .inl (-2147483648, 2147483647), .inl (-2147483648, 2147483647), .inl (-2147483648, 2147483647), .inl (-2147483648, 2147483647), .inl (-2147483648, 2147483647), .inl (-2147483648, 2147483647), .inl (-2147483648, 2147483647), .inl (-2147483648, 2147483647), .inr (.inr (some (.inr 25))), .inr (.inr (some (.inr 26))), .inr (.inr (some (.inr 27))), .inr (.inr (some (.inr 28))), .inr (.inr (some (.inr 29))), .inr (.inr (some (.inr 201)))]), .inl (1, 260, -128, 127)])
def V_X12_types_248 (j : Nat) : List (Tg × Me) := match Nat.blt (j + 1) 5 with
  | true => [(U_X12_types_248 (j + 1), (0, []))]
  | false => []
set_option maxRecDepth 100000 in
theorem s_X12_types_248 {l : Launch} : conOk (MetP l 0 yX12_types cX12_types 3 none 0 0) C_X12_types_248 := by
  intro τ hΦ as h ha hh
  refine m_X12_types (fun (μ : Nat) (L : PL) (st : List PV) (h : PH) => ∃ j, j < 5 ∧ μ = 5 - j ∧ gI τ (U_X12_types_248 j) L st h) (by rw [all2_len ha]; exact Nat.le_of_ble_eq_true rfl) ?_ ?_
  · exact runG (τ := τ) (cuts := [exb (fun (μ : Nat) (L : PL) (st : List PV) (h : PH) => ∃ j, j < 5 ∧ μ = 5 - j ∧ gI τ (U_X12_types_248 j) L st h)]) (CE := [(U_X12_types_248 0, (0, []))]) (P := P_X12_types_248) (CS := []) (Ms := []) (GS := []) (Mg := []) (RS := C_X12_types_248.2.2) (Rv := (fun r h' => ∃ q, q ∈ C_X12_types_248.2.2 ∧ gR q.1 r ∧ all2 (gC ρ0 τ) q.2 h')) (q := 26) (T := ((C_X12_types_248.1.map some ++ List.replicate (3 - 2) none, [], C_X12_types_248.2.1) : Tg)) (sl := [(0, 1)]) (x := 0) (L := enL as 3) (st := []) (h := h) hΦ (fun j q e L st h hg => match j, e with | 0, e => (by cases e; exact ⟨5, 0, by omega, rfl, hg⟩) | _ + 1, e => (by cases e)) (fun j C e => match j, e with | _ + 0, e => (by cases e)) (fun j g e => match j, e with | _ + 0, e => (by cases e)) (fun r h' q hq h1 h2 => ⟨q, hq, h1, h2⟩) ⟨door ha, trivial, hh⟩ (by decide +kernel)
  · intro μ L st h hJ
    obtain ⟨j, hj, hμ, hI⟩ := hJ
    have hall : ∀ j, j < 5 → blkC (U_X12_types_248 j) (0, []) [(0, 1), (0, 2)] (chk P_X12_types_248 (V_X12_types_248 j) false [] [] none C_X12_types_248.2.2 26 2) = true := by decide +kernel
    exact runG (τ := τ) (cuts := [ltb (fun (μ : Nat) (L : PL) (st : List PV) (h : PH) => ∃ j, j < 5 ∧ μ = 5 - j ∧ gI τ (U_X12_types_248 j) L st h) μ]) (CE := V_X12_types_248 j) (P := P_X12_types_248) (CS := []) (Ms := []) (GS := []) (Mg := []) (RS := C_X12_types_248.2.2) (Rv := (fun r h' => ∃ q, q ∈ C_X12_types_248.2.2 ∧ gR q.1 r ∧ all2 (gC ρ0 τ) q.2 h')) (q := 26) (T := U_X12_types_248 j) (sl := [(0, 1), (0, 2)]) (x := 2) hΦ (fun i q e L st h hg => by
      unfold V_X12_types_248 at e
      split at e
      · rename_i hb
        have hb := Nat.blt_eq.mp hb
        match i, e with
        | 0, e => cases e; exact ⟨5 - (j + 1), by omega, j + 1, by omega, rfl, hg⟩
        | _ + 1, e => cases e
      · cases e) (fun j C e => match j, e with | _ + 0, e => (by cases e)) (fun j g e => match j, e with | _ + 0, e => (by cases e)) (fun r h' q hq h1 h2 => ⟨q, hq, h1, h2⟩) hI (hall j hj)

def P_X12_types_252 : List Nd := [(0, [3], [1]), (3, [], [23, 2]), (1, [], [3, 2]), (10, [], [22, 4, 1]), (2, [], [5, 0]), (18, [], [6, 9, 11]), (2, [], [7, 0]), (18, [], [8, 10, 11]), (1, [], [9, 1]), (0, [8], [10]), (1, [], [11, 2]), (6, [], [12, 2]), (6, [], [13, 7]), (7, [], [14, 1]), (21, [], [15, 1, 2]), (2, [], [16, 0]), (2, [], [17, 0]), (18, [], [18, 10, 11]), (0, [1], [19]), (6, [], [20, 0]), (19, [], [21, 10, 0, 11]), (5, [-1], [23, 2]), (23, [], []), (27, [], [0])]
def C_X12_types_252 : Con := ([.inr (.inr (some (.inl 0))), .inl (-2147483648, 2147483647)], hc_9e1bbb7baa, [(none, hc_c8515669ef)])
def U_X12_types_252 (j : Nat) : Tg := ([some (.inr (.inr (some (.inl 0)))), some (.inl (-2147483648, 2147483647)), some (.inl ((3 - j : Int), (3 - j : Int)))], [], [.inr (11, [.inr (.inr (some (.inr 0))), .inr (.inr (some (.inr 1))), .inr (.inr (some (.inr 2))), .inr (.inr (some (.inr 3))), .inr (.inr (some (.inr 4))), .inr (.inr (some (.inr 5))), .inr (.inr (some (.inr 6))), .inr (.inr (some (.inr 7))), .inl (0, 48), .inr (.inr (some (.inl 1))), .inl ((0 + j : Int), (252 + j : Int)), .inl (0, 240), .inl (0, 240), .inl (-2147483648, 2147483647), .inl (-2147483648, 2147483647), .inl (-2147483648, 2147483647), .inl (0, 260), .inl (0, 260), .inl (0, 16), .inr (.inr (some (.inr 200))), .inr (.inr (some (.inr 8))), .inr (.inr (some (.inr 9))), .inr (.inr (some (.inr 10))), .inr (.inr (some (.inr 11))), .inr (.inr (some (.inr 12))), .inr (.inr (some (.inr 13))), .inr (.inr (some (.inr 14))), .inr (.inr (some (.inr 15))), .inr (.inr (some (.inr 16))), .inr (.inr (some (.inr 17))), .inr (.inr (some (.inr 18))), .inr (.inr (some (.inr 19))), .inr (.inr (some (.inr 20))), .inr (.inr (some (.inr 21))), .inr (.inr (some (.inr 22))), .inr (.inr (some (.inr 23))), .inr (.inr (some (.inr 24))), .inl (-2147483648, 2147483647), .inl (-2147483648, 2147483647), .inl (-2147483648, 2147483647), .inl (-2147483648, 2147483647), .inl (-2147483648, 2147483647), .inl (-2147483648, 2147483647), .inl (-2147483648, 2147483647), .inl (-2147483648, 2147483647), .inl (-2147483648, 2147483647), .inl (-2147483648, 2147483647), .inr (.inr (some (.inr 25))), .inr (.inr (some (.inr 26))), .inr (.inr (some (.inr 27))), .inr (.inr (some (.inr 28))), .inr (.inr (some (.inr 29))), .inr (.inr (some (.inr 201)))]), .inl (1, 260, -128, 127)])
def V_X12_types_252 (j : Nat) : List (Tg × Me) := match Nat.blt (j + 1) 5 with
  | true => [(U_X12_types_252 (j + 1), (0, []))]
  | false => []
set_option maxRecDepth 100000 in
theorem s_X12_types_252 {l : Launch} : conOk (MetP l 0 yX12_types cX12_types 3 none 0 0) C_X12_types_252 := by
  intro τ hΦ as h ha hh
  refine m_X12_types (fun (μ : Nat) (L : PL) (st : List PV) (h : PH) => ∃ j, j < 5 ∧ μ = 5 - j ∧ gI τ (U_X12_types_252 j) L st h) (by rw [all2_len ha]; exact Nat.le_of_ble_eq_true rfl) ?_ ?_
  · exact runG (τ := τ) (cuts := [exb (fun (μ : Nat) (L : PL) (st : List PV) (h : PH) => ∃ j, j < 5 ∧ μ = 5 - j ∧ gI τ (U_X12_types_252 j) L st h)]) (CE := [(U_X12_types_252 0, (0, []))]) (P := P_X12_types_252) (CS := []) (Ms := []) (GS := []) (Mg := []) (RS := C_X12_types_252.2.2) (Rv := (fun r h' => ∃ q, q ∈ C_X12_types_252.2.2 ∧ gR q.1 r ∧ all2 (gC ρ0 τ) q.2 h')) (q := 26) (T := ((C_X12_types_252.1.map some ++ List.replicate (3 - 2) none, [], C_X12_types_252.2.1) : Tg)) (sl := [(0, 1)]) (x := 0) (L := enL as 3) (st := []) (h := h) hΦ (fun j q e L st h hg => match j, e with | 0, e => (by cases e; exact ⟨5, 0, by omega, rfl, hg⟩) | _ + 1, e => (by cases e)) (fun j C e => match j, e with | _ + 0, e => (by cases e)) (fun j g e => match j, e with | _ + 0, e => (by cases e)) (fun r h' q hq h1 h2 => ⟨q, hq, h1, h2⟩) ⟨door ha, trivial, hh⟩ (by decide +kernel)
  · intro μ L st h hJ
    obtain ⟨j, hj, hμ, hI⟩ := hJ
    have hall : ∀ j, j < 5 → blkC (U_X12_types_252 j) (0, []) [(0, 1), (0, 2)] (chk P_X12_types_252 (V_X12_types_252 j) false [] [] none C_X12_types_252.2.2 26 2) = true := by decide +kernel
    exact runG (τ := τ) (cuts := [ltb (fun (μ : Nat) (L : PL) (st : List PV) (h : PH) => ∃ j, j < 5 ∧ μ = 5 - j ∧ gI τ (U_X12_types_252 j) L st h) μ]) (CE := V_X12_types_252 j) (P := P_X12_types_252) (CS := []) (Ms := []) (GS := []) (Mg := []) (RS := C_X12_types_252.2.2) (Rv := (fun r h' => ∃ q, q ∈ C_X12_types_252.2.2 ∧ gR q.1 r ∧ all2 (gC ρ0 τ) q.2 h')) (q := 26) (T := U_X12_types_252 j) (sl := [(0, 1), (0, 2)]) (x := 2) hΦ (fun i q e L st h hg => by
      unfold V_X12_types_252 at e
      split at e
      · rename_i hb
        have hb := Nat.blt_eq.mp hb
        match i, e with
        | 0, e => cases e; exact ⟨5 - (j + 1), by omega, j + 1, by omega, rfl, hg⟩
        | _ + 1, e => cases e
      · cases e) (fun j C e => match j, e with | _ + 0, e => (by cases e)) (fun j g e => match j, e with | _ + 0, e => (by cases e)) (fun r h' q hq h1 h2 => ⟨q, hq, h1, h2⟩) hI (hall j hj)

def P_X12_types_256 : List Nd := [(0, [3], [1]), (3, [], [23, 2]), (1, [], [3, 2]), (10, [], [22, 4, 1]), (2, [], [5, 0]), (18, [], [6, 9, 11]), (2, [], [7, 0]), (18, [], [8, 10, 11]), (1, [], [9, 1]), (0, [8], [10]), (1, [], [11, 2]), (6, [], [12, 2]), (6, [], [13, 7]), (7, [], [14, 1]), (21, [], [15, 1, 2]), (2, [], [16, 0]), (2, [], [17, 0]), (18, [], [18, 10, 11]), (0, [1], [19]), (6, [], [20, 0]), (19, [], [21, 10, 0, 11]), (5, [-1], [23, 2]), (23, [], []), (27, [], [0])]
def C_X12_types_256 : Con := ([.inr (.inr (some (.inl 0))), .inl (-2147483648, 2147483647)], hc_c8515669ef, [(none, hc_f6ee69c243)])
def U_X12_types_256 (j : Nat) : Tg := ([some (.inr (.inr (some (.inl 0)))), some (.inl (-2147483648, 2147483647)), some (.inl ((3 - j : Int), (3 - j : Int)))], [], [.inr (11, [.inr (.inr (some (.inr 0))), .inr (.inr (some (.inr 1))), .inr (.inr (some (.inr 2))), .inr (.inr (some (.inr 3))), .inr (.inr (some (.inr 4))), .inr (.inr (some (.inr 5))), .inr (.inr (some (.inr 6))), .inr (.inr (some (.inr 7))), .inl (0, 48), .inr (.inr (some (.inl 1))), .inl ((0 + j : Int), (256 + j : Int)), .inl (0, 240), .inl (0, 240), .inl (-2147483648, 2147483647), .inl (-2147483648, 2147483647), .inl (-2147483648, 2147483647), .inl (0, 260), .inl (0, 260), .inl (0, 16), .inr (.inr (some (.inr 200))), .inr (.inr (some (.inr 8))), .inr (.inr (some (.inr 9))), .inr (.inr (some (.inr 10))), .inr (.inr (some (.inr 11))), .inr (.inr (some (.inr 12))), .inr (.inr (some (.inr 13))), .inr (.inr (some (.inr 14))), .inr (.inr (some (.inr 15))), .inr (.inr (some (.inr 16))), .inr (.inr (some (.inr 17))), .inr (.inr (some (.inr 18))), .inr (.inr (some (.inr 19))), .inr (.inr (some (.inr 20))), .inr (.inr (some (.inr 21))), .inr (.inr (some (.inr 22))), .inr (.inr (some (.inr 23))), .inr (.inr (some (.inr 24))), .inl (-2147483648, 2147483647), .inl (-2147483648, 2147483647), .inl (-2147483648, 2147483647), .inl (-2147483648, 2147483647), .inl (-2147483648, 2147483647), .inl (-2147483648, 2147483647), .inl (-2147483648, 2147483647), .inl (-2147483648, 2147483647), .inl (-2147483648, 2147483647), .inl (-2147483648, 2147483647), .inr (.inr (some (.inr 25))), .inr (.inr (some (.inr 26))), .inr (.inr (some (.inr 27))), .inr (.inr (some (.inr 28))), .inr (.inr (some (.inr 29))), .inr (.inr (some (.inr 201)))]), .inl (1, 260, -128, 127)])
def V_X12_types_256 (j : Nat) : List (Tg × Me) := match Nat.blt (j + 1) 5 with
  | true => [(U_X12_types_256 (j + 1), (0, []))]
  | false => []
set_option maxRecDepth 100000 in
theorem s_X12_types_256 {l : Launch} : conOk (MetP l 0 yX12_types cX12_types 3 none 0 0) C_X12_types_256 := by
  intro τ hΦ as h ha hh
  refine m_X12_types (fun (μ : Nat) (L : PL) (st : List PV) (h : PH) => ∃ j, j < 5 ∧ μ = 5 - j ∧ gI τ (U_X12_types_256 j) L st h) (by rw [all2_len ha]; exact Nat.le_of_ble_eq_true rfl) ?_ ?_
  · exact runG (τ := τ) (cuts := [exb (fun (μ : Nat) (L : PL) (st : List PV) (h : PH) => ∃ j, j < 5 ∧ μ = 5 - j ∧ gI τ (U_X12_types_256 j) L st h)]) (CE := [(U_X12_types_256 0, (0, []))]) (P := P_X12_types_256) (CS := []) (Ms := []) (GS := []) (Mg := []) (RS := C_X12_types_256.2.2) (Rv := (fun r h' => ∃ q, q ∈ C_X12_types_256.2.2 ∧ gR q.1 r ∧ all2 (gC ρ0 τ) q.2 h')) (q := 26) (T := ((C_X12_types_256.1.map some ++ List.replicate (3 - 2) none, [], C_X12_types_256.2.1) : Tg)) (sl := [(0, 1)]) (x := 0) (L := enL as 3) (st := []) (h := h) hΦ (fun j q e L st h hg => match j, e with | 0, e => (by cases e; exact ⟨5, 0, by omega, rfl, hg⟩) | _ + 1, e => (by cases e)) (fun j C e => match j, e with | _ + 0, e => (by cases e)) (fun j g e => match j, e with | _ + 0, e => (by cases e)) (fun r h' q hq h1 h2 => ⟨q, hq, h1, h2⟩) ⟨door ha, trivial, hh⟩ (by decide +kernel)
  · intro μ L st h hJ
    obtain ⟨j, hj, hμ, hI⟩ := hJ
    have hall : ∀ j, j < 5 → blkC (U_X12_types_256 j) (0, []) [(0, 1), (0, 2)] (chk P_X12_types_256 (V_X12_types_256 j) false [] [] none C_X12_types_256.2.2 26 2) = true := by decide +kernel
    exact runG (τ := τ) (cuts := [ltb (fun (μ : Nat) (L : PL) (st : List PV) (h : PH) => ∃ j, j < 5 ∧ μ = 5 - j ∧ gI τ (U_X12_types_256 j) L st h) μ]) (CE := V_X12_types_256 j) (P := P_X12_types_256) (CS := []) (Ms := []) (GS := []) (Mg := []) (RS := C_X12_types_256.2.2) (Rv := (fun r h' => ∃ q, q ∈ C_X12_types_256.2.2 ∧ gR q.1 r ∧ all2 (gC ρ0 τ) q.2 h')) (q := 26) (T := U_X12_types_256 j) (sl := [(0, 1), (0, 2)]) (x := 2) hΦ (fun i q e L st h hg => by
      unfold V_X12_types_256 at e
      split at e
      · rename_i hb
        have hb := Nat.blt_eq.mp hb
        match i, e with
        | 0, e => cases e; exact ⟨5 - (j + 1), by omega, j + 1, by omega, rfl, hg⟩
        | _ + 1, e => cases e
      · cases e) (fun j C e => match j, e with | _ + 0, e => (by cases e)) (fun j g e => match j, e with | _ + 0, e => (by cases e)) (fun r h' q hq h1 h2 => ⟨q, hq, h1, h2⟩) hI (hall j hj)

def P_X12_feed : List Nd := [(2, [], [1, 0]), (18, [], [2, 10, 11]), (0, [20], [3]), (6, [], [4, 0]), (0, [260], [5]), (11, [], [8, 6, 4]), (0, [-1], [7]), (24, [], []), (2, [], [9, 0]), (1, [], [10, 1]), (26, [-1, -2, -3, -4, -5, -6, -7, -8, -9, -10, -11, -12, -13, -14, -15, -16, -17, -18, -19, -20, -21, -22, -23, -24, -25, -26, -27, -28, -29, -30], [11, 0, 12, 2, 0, 1]), (2, [], [12, 0]), (1, [], [13, 2]), (26, [-1, -2, -3, -4, -5, -6, -7, -8, -9, -10, -11, -12, -13, -14, -15, -16, -17, -18, -19, -20, -21, -22, -23, -24, -25, -26, -27, -28, -29, -30], [14, 1, 12, 2, 0, 1]), (2, [], [15, 0]), (1, [], [16, 3]), (26, [-1, -2, -3, -4, -5, -6, -7, -8, -9, -10, -11, -12, -13, -14, -15, -16, -17, -18, -19, -20, -21, -22, -23, -24, -25, -26, -27, -28, -29, -30], [17, 2, 12, 2, 0, 1]), (2, [], [18, 0]), (1, [], [19, 4]), (26, [-1, -2, -3, -4, -5, -6, -7, -8, -9, -10, -11, -12, -13, -14, -15, -16, -17, -18, -19, -20, -21, -22, -23, -24, -25, -26, -27, -28, -29, -30], [20, 3, 12, 2, 0, 1]), (2, [], [21, 0]), (1, [], [22, 5]), (26, [-1, -2, -3, -4, -5, -6, -7, -8, -9, -10, -11, -12, -13, -14, -15, -16, -17, -18, -19, -20, -21, -22, -23, -24, -25, -26, -27, -28, -29, -30], [23, 4, 12, 2, 0, 1]), (2, [], [24, 0]), (18, [], [25, 10, 11]), (24, [], [])]
def C_X12_feed : Con := ([.inr (.inr (some (.inl 0))), .inl (-2147483648, 2147483647), .inl (-2147483648, 2147483647), .inl (-2147483648, 2147483647), .inl (-2147483648, 2147483647), .inl (-2147483648, 2147483647)], hc_f6ee69c243, [(some (-2147483648, 2147483647), hc_f6ee69c243)])
set_option maxRecDepth 100000 in
theorem s_X12_feed {l : Launch} : conOk (MetP l 1 yX12_feed cX12_feed 6 (some .int) 0 0) C_X12_feed := by
  intro τ hΦ as h ha hh
  refine m_X12_feed  (by rw [all2_len ha]; exact Nat.le_of_ble_eq_true rfl) ?_
  · exact run0 (τ := τ) (P := P_X12_feed) (CE := []) (CS := [C_X12_types_240, C_X12_types_244, C_X12_types_248, C_X12_types_252, C_X12_types_256]) (Ms := [MetP l 0 yX12_types cX12_types 3 none 0 0, MetP l 0 yX12_types cX12_types 3 none 0 0, MetP l 0 yX12_types cX12_types 3 none 0 0, MetP l 0 yX12_types cX12_types 3 none 0 0, MetP l 0 yX12_types cX12_types 3 none 0 0]) (GS := []) (Mg := []) (T := ((C_X12_feed.1.map some ++ List.replicate (6 - 6) none, [], C_X12_feed.2.1) : Tg)) (sl := [(0, 1), (0, 2), (0, 3), (0, 4), (0, 5)]) (q := 28) (x := 0) (L := enL as 6) (st := []) (h := h) hΦ (fun j C e => match j, e with | 0, e => (by cases e; exact s_X12_types_240) | 1, e => (by cases e; exact s_X12_types_244) | 2, e => (by cases e; exact s_X12_types_248) | 3, e => (by cases e; exact s_X12_types_252) | 4, e => (by cases e; exact s_X12_types_256) | _ + 5, e => (by cases e)) (fun j g e => match j, e with | _ + 0, e => (by cases e)) (RS := C_X12_feed.2.2) (Rv := (fun r h' => ∃ q, q ∈ C_X12_feed.2.2 ∧ gR q.1 r ∧ all2 (gC ρ0 τ) q.2 h')) (GR := none) (M := (0, [])) (fun r h' q hq h1 h2 _ => ⟨q, hq, h1, h2⟩) ⟨door ha, trivial, hh⟩ (by decide +kernel)

def P_X12_hang : List Nd := [(1, [], [1, 1]), (0, [1], [2]), (0, [9], [3]), (31, [], [17, 5, 0, 0, 3]), (10, [], [17, 5, 0]), (1, [], [6, 2]), (31, [], [17, 8, 1, 0, 1]), (10, [], [17, 8, 0]), (1, [], [9, 3]), (0, [0], [10]), (0, [1], [11]), (31, [], [17, 13, 2, 0, 3]), (10, [], [17, 13, 0]), (1, [], [14, 1]), (2, [], [15, 0]), (18, [], [16, 10, 11]), (11, [], [19, 17, 4]), (0, [-1], [18]), (24, [], []), (2, [], [20, 0]), (1, [], [21, 1]), (26, [-1, -2, -3, 3, -4, -5, -6, -7, -8, -9, -10, -11, -12, -13, -14, -15, -16, -17, -18, -19, -20, -21, -22, -23, -24, -25, -26], [22, 0, 12, 2, 0, 1, 2, 4, 5]), (10, [], [23, 25, 0]), (0, [-3], [24]), (24, [], []), (0, [0], [26]), (3, [], [27, 4]), (0, [-2], [28]), (3, [], [29, 5]), (0, [1], [30]), (3, [], [66, 6]), (1, [], [32, 6]), (0, [1], [33]), (1, [], [34, 1]), (6, [], [35, 6]), (11, [], [61, 36, 2]), (2, [], [37, 0]), (1, [], [38, 6]), (1, [], [39, 1]), (1, [], [40, 2]), (0, [1], [41]), (26, [-1, -2, -3, -4, -5, 4, -6, -7, -8, -9, -10, -11, -12, -13, -14, -15, -16, -17, -18, -19, -20, -21, -22, -23, -24, -25, -26], [42, 1, 12, 5, 0, 1, 2, 3, 5]), (10, [], [43, 60, 0]), (2, [], [44, 0]), (1, [], [45, 6]), (1, [], [46, 1]), (1, [], [47, 2]), (0, [0], [48]), (26, [-1, -2, -3, -4, -5, 4, -6, -7, -8, -9, -10, -11, -12, -13, -14, -15, -16, -17, -18, -19, -20, -21, -22, -23, -24, -25, -26], [49, 1, 12, 5, 0, 1, 2, 3, 5]), (10, [], [50, 60, 0]), (1, [], [51, 4]), (0, [1], [52]), (6, [], [53, 0]), (3, [], [54, 4]), (1, [], [55, 6]), (1, [], [56, 5]), (26, [], [57, 2, 0, 2]), (10, [], [60, 58, 0]), (1, [], [59, 6]), (3, [], [60, 5]), (5, [1], [66, 6]), (1, [], [62, 3]), (10, [], [63, 64, 0]), (1, [], [65, 4]), (1, [], [65, 5]), (24, [], []), (27, [], [0])]
def C_X12_hang : Con := ([.inr (.inr (some (.inl 0))), .inl (-2147483648, 2147483647), .inl (-2147483648, 2147483647), .inl (-2147483648, 2147483647)], hc_5f664be027, [(some (-2147483648, 2147483647), hc_5f664be027)])
def T_X12_hang_57 : Tg × Me := (([some (.inr (.inr (some (.inl 0)))), some (.inl (1, 9)), some (.inl (0, 383)), some (.inl (0, 1)), some (.inl (-2147483648, 2147483647)), some (.inl (-2, 600)), some (.inl (1, 600))], [], hc_5f664be027), (601, [(-1, 0, 6)]))
set_option maxRecDepth 100000 in
theorem s_X12_hang {l : Launch} : conOk (MetP l 3 yX12_hang cX12_hang 7 (some .int) 0 0) C_X12_hang := by
  intro τ hΦ as h ha hh
  refine m_X12_hang (Jc τ T_X12_hang_57) (by rw [all2_len ha]; exact Nat.le_of_ble_eq_true rfl) ?_ ?_
  · exact run0 (τ := τ) (P := P_X12_hang) (CE := [T_X12_hang_57]) (CS := [C_X12_takesStamps, C_X12_pullOf, C_X12_isLess]) (Ms := [MetP l 2 yX12_takesStamps cX12_takesStamps 4 (some .boolean) 0 0, MetP l 2 yX12_pullOf cX12_pullOf 8 (some .int) 0 0, MetP l 1 yX12_isLess cX12_isLess 2 (some .boolean) 0 0]) (GS := [(([topA, .inl (1, 2147483647), .inl (-2147483648, 9)], [], some (0, 1), []), 0, 1, 9), (([topA], [], some (0, 1), []), 0, 0, 383), (([topA, .inl (0, 2147483647), .inl (-2147483648, 1)], [], some (0, 1), []), 0, 0, 1)]) (Mg := [MetP l 0 yX12_in cX12_in 3 (some .boolean) 0 0, MetP l 1 yX12_isPlace cX12_isPlace 1 (some .boolean) 0 0, MetP l 0 yX12_in cX12_in 3 (some .boolean) 0 0]) (T := ((C_X12_hang.1.map some ++ List.replicate (7 - 4) none, [], C_X12_hang.2.1) : Tg)) (sl := [(0, 1), (0, 2), (0, 3)]) (q := 69) (x := 0) (L := enL as 7) (st := []) (h := h) hΦ (fun j C e => match j, e with | 0, e => (by cases e; exact s_X12_takesStamps) | 1, e => (by cases e; exact s_X12_pullOf) | 2, e => (by cases e; exact s_X12_isLess) | _ + 3, e => (by cases e)) (fun j g e => match j, e with | 0, e => (by cases e; exact gd_in (1) (9)) | 1, e => (by cases e; exact gd_misPlace) | 2, e => (by cases e; exact gd_in (0) (1)) | _ + 3, e => (by cases e)) (RS := C_X12_hang.2.2) (Rv := (fun r h' => ∃ q, q ∈ C_X12_hang.2.2 ∧ gR q.1 r ∧ all2 (gC ρ0 τ) q.2 h')) (GR := none) (M := (0, [])) (fun r h' q hq h1 h2 _ => ⟨q, hq, h1, h2⟩) ⟨door ha, trivial, hh⟩ (by decide +kernel)
  · intro μ L st h hJ
    exact runL (τ := τ) (P := P_X12_hang) (CE := [T_X12_hang_57]) (CS := [C_X12_takesStamps, C_X12_pullOf, C_X12_isLess]) (Ms := [MetP l 2 yX12_takesStamps cX12_takesStamps 4 (some .boolean) 0 0, MetP l 2 yX12_pullOf cX12_pullOf 8 (some .int) 0 0, MetP l 1 yX12_isLess cX12_isLess 2 (some .boolean) 0 0]) (GS := [(([topA, .inl (1, 2147483647), .inl (-2147483648, 9)], [], some (0, 1), []), 0, 1, 9), (([topA], [], some (0, 1), []), 0, 0, 383), (([topA, .inl (0, 2147483647), .inl (-2147483648, 1)], [], some (0, 1), []), 0, 0, 1)]) (Mg := [MetP l 0 yX12_in cX12_in 3 (some .boolean) 0 0, MetP l 1 yX12_isPlace cX12_isPlace 1 (some .boolean) 0 0, MetP l 0 yX12_in cX12_in 3 (some .boolean) 0 0]) (Q := T_X12_hang_57) (sl := [(0, 1), (0, 2), (0, 3), (0, 4), (0, 5), (0, 6)]) (q := 69) (x := 31) hΦ (fun j C e => match j, e with | 0, e => (by cases e; exact s_X12_takesStamps) | 1, e => (by cases e; exact s_X12_pullOf) | 2, e => (by cases e; exact s_X12_isLess) | _ + 3, e => (by cases e)) (fun j g e => match j, e with | 0, e => (by cases e; exact gd_in (1) (9)) | 1, e => (by cases e; exact gd_misPlace) | 2, e => (by cases e; exact gd_in (0) (1)) | _ + 3, e => (by cases e)) (RS := C_X12_hang.2.2) (Rv := (fun r h' => ∃ q, q ∈ C_X12_hang.2.2 ∧ gR q.1 r ∧ all2 (gC ρ0 τ) q.2 h')) (fun r h' q hq h1 h2 => ⟨q, hq, h1, h2⟩) hJ (by decide +kernel)

def P_X12_here : List Nd := [(2, [], [1, 0]), (18, [], [2, 11, 11]), (2, [], [3, 0]), (18, [], [4, 12, 11]), (11, [], [12, 5, 2]), (2, [], [6, 0]), (18, [], [7, 9, 11]), (2, [], [8, 0]), (18, [], [9, 11, 11]), (20, [], [10, 1, 2]), (0, [255], [11]), (6, [], [13, 3]), (0, [-1], [13]), (24, [], [])]
def C_X12_here : Con := ([.inr (.inr (some (.inl 0)))], hc_f6ee69c243, [(some (-1, -1), hc_f6ee69c243), (some (0, 255), hc_cc42e4a982)])
set_option maxRecDepth 100000 in
theorem s_X12_here {l : Launch} : conOk (MetP l 0 yX12_here cX12_here 1 (some .int) 0 0) C_X12_here := by
  intro τ hΦ as h ha hh
  refine m_X12_here  (by rw [all2_len ha]; exact Nat.le_of_ble_eq_true rfl) ?_
  · exact run0 (τ := τ) (P := P_X12_here) (CE := []) (CS := []) (Ms := []) (GS := []) (Mg := []) (T := ((C_X12_here.1.map some ++ List.replicate (1 - 1) none, [], C_X12_here.2.1) : Tg)) (sl := []) (q := 16) (x := 0) (L := enL as 1) (st := []) (h := h) hΦ (fun j C e => match j, e with | _ + 0, e => (by cases e)) (fun j g e => match j, e with | _ + 0, e => (by cases e)) (RS := C_X12_here.2.2) (Rv := (fun r h' => ∃ q, q ∈ C_X12_here.2.2 ∧ gR q.1 r ∧ all2 (gC ρ0 τ) q.2 h')) (GR := none) (M := (0, [])) (fun r h' q hq h1 h2 _ => ⟨q, hq, h1, h2⟩) ⟨door ha, trivial, hh⟩ (by decide +kernel)

def P_X12_here_B : List Nd := [(2, [], [1, 0]), (18, [], [2, 11, 11]), (2, [], [3, 0]), (18, [], [4, 12, 11]), (11, [], [12, 5, 2]), (2, [], [6, 0]), (18, [], [7, 9, 11]), (2, [], [8, 0]), (18, [], [9, 11, 11]), (20, [], [10, 1, 2]), (0, [255], [11]), (6, [], [13, 3]), (0, [-1], [13]), (24, [], [])]
def C_X12_here_B : Con := ([.inr (.inr (some (.inl 0)))], hc_cc42e4a982, [(some (-1, 255), hc_cc42e4a982)])
set_option maxRecDepth 100000 in
theorem s_X12_here_B {l : Launch} : conOk (MetP l 0 yX12_here cX12_here 1 (some .int) 0 0) C_X12_here_B := by
  intro τ hΦ as h ha hh
  refine m_X12_here  (by rw [all2_len ha]; exact Nat.le_of_ble_eq_true rfl) ?_
  · exact run0 (τ := τ) (P := P_X12_here_B) (CE := []) (CS := []) (Ms := []) (GS := []) (Mg := []) (T := ((C_X12_here_B.1.map some ++ List.replicate (1 - 1) none, [], C_X12_here_B.2.1) : Tg)) (sl := []) (q := 16) (x := 0) (L := enL as 1) (st := []) (h := h) hΦ (fun j C e => match j, e with | _ + 0, e => (by cases e)) (fun j g e => match j, e with | _ + 0, e => (by cases e)) (RS := C_X12_here_B.2.2) (Rv := (fun r h' => ∃ q, q ∈ C_X12_here_B.2.2 ∧ gR q.1 r ∧ all2 (gC ρ0 τ) q.2 h')) (GR := none) (M := (0, [])) (fun r h' q hq h1 h2 _ => ⟨q, hq, h1, h2⟩) ⟨door ha, trivial, hh⟩ (by decide +kernel)

def P_X12_home : List Nd := [(2, [], [1, 0]), (1, [], [2, 1]), (31, [-1, -2, -3, 2, 3, -4, -5, -6, -7, -8, -9, -10, -11, -12, -13, -14, -15, -16, -17, -18, -19, -20, -21, -22, -23, -24, -25, -26, -27, -28], [9, 4, 0, 12, 2, 0, 1]), (10, [], [9, 4, 0]), (1, [], [5, 2]), (0, [0], [6]), (0, [1], [7]), (31, [], [9, 11, 1, 0, 3]), (10, [], [9, 11, 0]), (0, [-1], [10]), (24, [], []), (0, [-2], [12]), (3, [], [13, 3]), (0, [0], [14]), (3, [], [15, 4]), (0, [0], [16]), (3, [], [59, 5]), (1, [], [18, 5]), (0, [8], [19]), (11, [], [54, 20, 2]), (0, [0], [21]), (3, [], [22, 6]), (0, [0], [23]), (3, [], [60, 7]), (1, [], [25, 7]), (0, [48], [26]), (11, [], [46, 27, 2]), (2, [], [28, 0]), (1, [], [29, 7]), (1, [], [30, 1]), (26, [-1, -2, -3, 2, 3, -4, -5, -6, -7, -8, -9, -10, -11, -12, -13, -14, -15, -16, -17, -18, -19, -20, -21, -22, -23, -24, -25, -26, -27, -28], [31, 0, 12, 3, 0, 1]), (10, [], [45, 32, 0]), (2, [], [33, 0]), (18, [], [34, 4, 11]), (1, [], [35, 7]), (20, [], [36, 0]), (1, [], [37, 5]), (11, [], [38, 45, 0]), (1, [], [39, 6]), (2, [], [40, 0]), (18, [], [41, 5, 11]), (1, [], [42, 7]), (20, [], [43, 0]), (6, [], [44, 0]), (3, [], [45, 6]), (5, [1], [60, 7]), (1, [], [47, 6]), (1, [], [48, 4]), (11, [], [49, 53, 3]), (1, [], [50, 6]), (3, [], [51, 4]), (1, [], [52, 5]), (3, [], [53, 3]), (5, [1], [59, 5]), (1, [], [55, 2]), (10, [], [56, 57, 0]), (1, [], [58, 3]), (1, [], [58, 4]), (24, [], []), (27, [], [0]), (27, [], [1])]
def C_X12_home : Con := ([.inr (.inr (some (.inl 0))), .inl (-2147483648, 2147483647), .inl (-2147483648, 2147483647)], hc_96a5383a17, [(some (-2147483648, 2147483647), hc_96a5383a17)])
def T_X12_home_28 : Tg × Me := (([some (.inr (.inr (some (.inl 0)))), some (.inl (0, 7)), some (.inl (0, 1)), some (.inl (-2, 7)), some (.inl (0, 2147483647)), some (.inl (0, 8)), none, none], [], hc_96a5383a17), (459, [(-51, 0, 5)]))
def T_X12_home_41 : Tg × Me := (([some (.inr (.inr (some (.inl 0)))), some (.inl (0, 7)), some (.inl (0, 1)), some (.inl (-2, 7)), some (.inl (0, 2147483647)), some (.inl (0, 7)), some (.inl (-2147483648, 2147483647)), some (.inl (0, 48))], [], hc_96a5383a17), (457, [(-1, 0, 7), (-51, 0, 5)]))
set_option maxRecDepth 100000 in
theorem s_X12_home {l : Launch} : conOk (MetP l 3 yX12_home cX12_home 8 (some .int) 0 0) C_X12_home := by
  intro τ hΦ as h ha hh
  refine m_X12_home (Jc τ T_X12_home_28) (Jc τ T_X12_home_41) (by rw [all2_len ha]; exact Nat.le_of_ble_eq_true rfl) ?_ ?_ ?_
  · exact run0 (τ := τ) (P := P_X12_home) (CE := [T_X12_home_28, T_X12_home_41]) (CS := [C_X12_sticks]) (Ms := [MetP l 2 yX12_sticks cX12_sticks 3 (some .boolean) 0 0]) (GS := [(G_X12_isTold, 1, 0, 7), (([topA, .inl (0, 2147483647), .inl (-2147483648, 1)], [], some (0, 1), []), 0, 0, 1)]) (Mg := [MetP l 1 yX12_isTold cX12_isTold 2 (some .boolean) 0 0, MetP l 0 yX12_in cX12_in 3 (some .boolean) 0 0]) (T := ((C_X12_home.1.map some ++ List.replicate (8 - 3) none, [], C_X12_home.2.1) : Tg)) (sl := [(0, 1), (0, 2)]) (q := 63) (x := 0) (L := enL as 8) (st := []) (h := h) hΦ (fun j C e => match j, e with | 0, e => (by cases e; exact s_X12_sticks) | _ + 1, e => (by cases e)) (fun j g e => match j, e with | 0, e => (by cases e; exact gd_X12_isTold) | 1, e => (by cases e; exact gd_in (0) (1)) | _ + 2, e => (by cases e)) (RS := C_X12_home.2.2) (Rv := (fun r h' => ∃ q, q ∈ C_X12_home.2.2 ∧ gR q.1 r ∧ all2 (gC ρ0 τ) q.2 h')) (GR := none) (M := (0, [])) (fun r h' q hq h1 h2 _ => ⟨q, hq, h1, h2⟩) ⟨door ha, trivial, hh⟩ (by decide +kernel)
  · intro μ L st h hJ
    exact runL (τ := τ) (P := P_X12_home) (CE := [T_X12_home_28, T_X12_home_41]) (CS := [C_X12_sticks]) (Ms := [MetP l 2 yX12_sticks cX12_sticks 3 (some .boolean) 0 0]) (GS := [(G_X12_isTold, 1, 0, 7), (([topA, .inl (0, 2147483647), .inl (-2147483648, 1)], [], some (0, 1), []), 0, 0, 1)]) (Mg := [MetP l 1 yX12_isTold cX12_isTold 2 (some .boolean) 0 0, MetP l 0 yX12_in cX12_in 3 (some .boolean) 0 0]) (Q := T_X12_home_28) (sl := [(0, 1), (0, 2), (0, 3), (0, 4), (0, 5)]) (q := 63) (x := 17) hΦ (fun j C e => match j, e with | 0, e => (by cases e; exact s_X12_sticks) | _ + 1, e => (by cases e)) (fun j g e => match j, e with | 0, e => (by cases e; exact gd_X12_isTold) | 1, e => (by cases e; exact gd_in (0) (1)) | _ + 2, e => (by cases e)) (RS := C_X12_home.2.2) (Rv := (fun r h' => ∃ q, q ∈ C_X12_home.2.2 ∧ gR q.1 r ∧ all2 (gC ρ0 τ) q.2 h')) (fun r h' q hq h1 h2 => ⟨q, hq, h1, h2⟩) hJ (by decide +kernel)
  · intro μ L st h hJ
    exact runL (τ := τ) (P := P_X12_home) (CE := [T_X12_home_28, T_X12_home_41]) (CS := [C_X12_sticks]) (Ms := [MetP l 2 yX12_sticks cX12_sticks 3 (some .boolean) 0 0]) (GS := [(G_X12_isTold, 1, 0, 7), (([topA, .inl (0, 2147483647), .inl (-2147483648, 1)], [], some (0, 1), []), 0, 0, 1)]) (Mg := [MetP l 1 yX12_isTold cX12_isTold 2 (some .boolean) 0 0, MetP l 0 yX12_in cX12_in 3 (some .boolean) 0 0]) (Q := T_X12_home_41) (sl := [(0, 1), (0, 2), (0, 3), (0, 4), (0, 5), (0, 6), (0, 7)]) (q := 63) (x := 24) hΦ (fun j C e => match j, e with | 0, e => (by cases e; exact s_X12_sticks) | _ + 1, e => (by cases e)) (fun j g e => match j, e with | 0, e => (by cases e; exact gd_X12_isTold) | 1, e => (by cases e; exact gd_in (0) (1)) | _ + 2, e => (by cases e)) (RS := C_X12_home.2.2) (Rv := (fun r h' => ∃ q, q ∈ C_X12_home.2.2 ∧ gR q.1 r ∧ all2 (gC ρ0 τ) q.2 h')) (fun r h' q hq h1 h2 => ⟨q, hq, h1, h2⟩) hJ (by decide +kernel)

def P_X12_isDigit : List Nd := [(2, [], [1, 0]), (26, [-1, -2, -3, -4, -5, -6, -7, -8, -9, -10, -11, -12, -13, -14, -15, -16, -17, -18, -19, -20, -21, -22, -23, -24, -25, -26, -27, -28, -29, -30], [2, 0, 12, 1, 0, 1]), (0, [48], [3]), (11, [], [9, 4, 1]), (2, [], [5, 0]), (26, [-1, -2, -3, -4, -5, -6, -7, -8, -9, -10, -11, -12, -13, -14, -15, -16, -17, -18, -19, -20, -21, -22, -23, -24, -25, -26, -27, -28, -29, -30], [6, 1, 12, 1, 0, 1]), (0, [57], [7]), (11, [], [9, 8, 3]), (0, [1], [10]), (0, [0], [10]), (25, [], [])]
def C_X12_isDigit : Con := ([.inr (.inr (some (.inl 0)))], hc_f6ee69c243, [(some (0, 0), hc_f6ee69c243), (some (1, 1), hc_cc42e4a982)])
set_option maxRecDepth 100000 in
theorem s_X12_isDigit {l : Launch} : conOk (MetP l 1 yX12_isDigit cX12_isDigit 1 (some .boolean) 0 0) C_X12_isDigit := by
  intro τ hΦ as h ha hh
  refine m_X12_isDigit  (by rw [all2_len ha]; exact Nat.le_of_ble_eq_true rfl) ?_
  · exact run0 (τ := τ) (P := P_X12_isDigit) (CE := []) (CS := [C_X12_here, C_X12_here_B]) (Ms := [MetP l 0 yX12_here cX12_here 1 (some .int) 0 0, MetP l 0 yX12_here cX12_here 1 (some .int) 0 0]) (GS := []) (Mg := []) (T := ((C_X12_isDigit.1.map some ++ List.replicate (1 - 1) none, [], C_X12_isDigit.2.1) : Tg)) (sl := []) (q := 13) (x := 0) (L := enL as 1) (st := []) (h := h) hΦ (fun j C e => match j, e with | 0, e => (by cases e; exact s_X12_here) | 1, e => (by cases e; exact s_X12_here_B) | _ + 2, e => (by cases e)) (fun j g e => match j, e with | _ + 0, e => (by cases e)) (RS := C_X12_isDigit.2.2) (Rv := (fun r h' => ∃ q, q ∈ C_X12_isDigit.2.2 ∧ gR q.1 r ∧ all2 (gC ρ0 τ) q.2 h')) (GR := none) (M := (0, [])) (fun r h' q hq h1 h2 _ => ⟨q, hq, h1, h2⟩) ⟨door ha, trivial, hh⟩ (by decide +kernel)

def P_X12_wrongAt : List Nd := [(2, [], [1, 0]), (0, [-1000], [2]), (1, [], [3, 1]), (6, [], [4, 2]), (1, [], [5, 2]), (6, [], [6, 1]), (19, [], [7, 13, 0, 11]), (0, [0], [8]), (25, [], [])]
def C_X12_wrongAt : Con := ([.inr (.inr (some (.inl 0))), .inl (-2147483648, 2147483647), .inl (-2147483648, 2147483647)], hc_a45da04a91, [(some (0, 0), hc_a45da04a91)])
set_option maxRecDepth 100000 in
theorem s_X12_wrongAt {l : Launch} : conOk (MetP l 0 yX12_wrongAt cX12_wrongAt 3 (some .boolean) 0 0) C_X12_wrongAt := by
  intro τ hΦ as h ha hh
  refine m_X12_wrongAt  (by rw [all2_len ha]; exact Nat.le_of_ble_eq_true rfl) ?_
  · exact run0 (τ := τ) (P := P_X12_wrongAt) (CE := []) (CS := []) (Ms := []) (GS := []) (Mg := []) (T := ((C_X12_wrongAt.1.map some ++ List.replicate (3 - 3) none, [], C_X12_wrongAt.2.1) : Tg)) (sl := [(0, 1), (0, 2)]) (q := 11) (x := 0) (L := enL as 3) (st := []) (h := h) hΦ (fun j C e => match j, e with | _ + 0, e => (by cases e)) (fun j g e => match j, e with | _ + 0, e => (by cases e)) (RS := C_X12_wrongAt.2.2) (Rv := (fun r h' => ∃ q, q ∈ C_X12_wrongAt.2.2 ∧ gR q.1 r ∧ all2 (gC ρ0 τ) q.2 h')) (GR := none) (M := (0, [])) (fun r h' q hq h1 h2 _ => ⟨q, hq, h1, h2⟩) ⟨door ha, trivial, hh⟩ (by decide +kernel)

def P_X12_sumSign : List Nd := [(1, [], [1, 0]), (0, [43], [2]), (11, [], [3, 4, 0]), (0, [2], [21]), (1, [], [5, 0]), (0, [45], [6]), (11, [], [7, 8, 0]), (0, [3], [21]), (1, [], [9, 0]), (0, [42], [10]), (11, [], [11, 12, 0]), (0, [4], [21]), (1, [], [13, 0]), (0, [47], [14]), (11, [], [15, 16, 0]), (0, [5], [21]), (1, [], [17, 0]), (0, [37], [18]), (11, [], [19, 20, 0]), (0, [6], [21]), (0, [-1], [21]), (24, [], [])]
def C_X12_sumSign : Con := ([.inl (-2147483648, 2147483647)], [], [(some (-2147483648, 2147483647), [])])
set_option maxRecDepth 100000 in
theorem s_X12_sumSign {l : Launch} : conOk (MetP l 0 yX12_sumSign cX12_sumSign 1 (some .int) 0 0) C_X12_sumSign := by
  intro τ hΦ as h ha hh
  refine m_X12_sumSign  (by rw [all2_len ha]; exact Nat.le_of_ble_eq_true rfl) ?_
  · exact run0 (τ := τ) (P := P_X12_sumSign) (CE := []) (CS := []) (Ms := []) (GS := []) (Mg := []) (T := ((C_X12_sumSign.1.map some ++ List.replicate (1 - 1) none, [], C_X12_sumSign.2.1) : Tg)) (sl := [(0, 0)]) (q := 24) (x := 0) (L := enL as 1) (st := []) (h := h) hΦ (fun j C e => match j, e with | _ + 0, e => (by cases e)) (fun j g e => match j, e with | _ + 0, e => (by cases e)) (RS := C_X12_sumSign.2.2) (Rv := (fun r h' => ∃ q, q ∈ C_X12_sumSign.2.2 ∧ gR q.1 r ∧ all2 (gC ρ0 τ) q.2 h')) (GR := none) (M := (0, [])) (fun r h' q hq h1 h2 _ => ⟨q, hq, h1, h2⟩) ⟨door ha, trivial, hh⟩ (by decide +kernel)

def P_X12_sumSign_n : List Nd := [(1, [], [1, 0]), (0, [43], [2]), (11, [], [3, 4, 0]), (0, [2], [21]), (1, [], [5, 0]), (0, [45], [6]), (11, [], [7, 8, 0]), (0, [3], [21]), (1, [], [9, 0]), (0, [42], [10]), (11, [], [11, 12, 0]), (0, [4], [21]), (1, [], [13, 0]), (0, [47], [14]), (11, [], [15, 16, 0]), (0, [5], [21]), (1, [], [17, 0]), (0, [37], [18]), (11, [], [19, 20, 0]), (0, [6], [21]), (0, [-1], [21]), (24, [], [])]
def C_X12_sumSign_n : Con := ([.inl (-2147483648, -1)], [], [(some (-1, -1), [])])
set_option maxRecDepth 100000 in
theorem s_X12_sumSign_n {l : Launch} : conOk (MetP l 0 yX12_sumSign cX12_sumSign 1 (some .int) 0 0) C_X12_sumSign_n := by
  intro τ hΦ as h ha hh
  refine m_X12_sumSign  (by rw [all2_len ha]; exact Nat.le_of_ble_eq_true rfl) ?_
  · exact run0 (τ := τ) (P := P_X12_sumSign_n) (CE := []) (CS := []) (Ms := []) (GS := []) (Mg := []) (T := ((C_X12_sumSign_n.1.map some ++ List.replicate (1 - 1) none, [], C_X12_sumSign_n.2.1) : Tg)) (sl := [(0, 0)]) (q := 24) (x := 0) (L := enL as 1) (st := []) (h := h) hΦ (fun j C e => match j, e with | _ + 0, e => (by cases e)) (fun j g e => match j, e with | _ + 0, e => (by cases e)) (RS := C_X12_sumSign_n.2.2) (Rv := (fun r h' => ∃ q, q ∈ C_X12_sumSign_n.2.2 ∧ gR q.1 r ∧ all2 (gC ρ0 τ) q.2 h')) (GR := none) (M := (0, [])) (fun r h' q hq h1 h2 _ => ⟨q, hq, h1, h2⟩) ⟨door ha, trivial, hh⟩ (by decide +kernel)

def P_X12_sumSign_p : List Nd := [(1, [], [1, 0]), (0, [43], [2]), (11, [], [3, 4, 0]), (0, [2], [21]), (1, [], [5, 0]), (0, [45], [6]), (11, [], [7, 8, 0]), (0, [3], [21]), (1, [], [9, 0]), (0, [42], [10]), (11, [], [11, 12, 0]), (0, [4], [21]), (1, [], [13, 0]), (0, [47], [14]), (11, [], [15, 16, 0]), (0, [5], [21]), (1, [], [17, 0]), (0, [37], [18]), (11, [], [19, 20, 0]), (0, [6], [21]), (0, [-1], [21]), (24, [], [])]
def C_X12_sumSign_p : Con := ([.inl (0, 2147483647)], [], [(some (-1, -1), []), (some (2, 6), [])])
set_option maxRecDepth 100000 in
theorem s_X12_sumSign_p {l : Launch} : conOk (MetP l 0 yX12_sumSign cX12_sumSign 1 (some .int) 0 0) C_X12_sumSign_p := by
  intro τ hΦ as h ha hh
  refine m_X12_sumSign  (by rw [all2_len ha]; exact Nat.le_of_ble_eq_true rfl) ?_
  · exact run0 (τ := τ) (P := P_X12_sumSign_p) (CE := []) (CS := []) (Ms := []) (GS := []) (Mg := []) (T := ((C_X12_sumSign_p.1.map some ++ List.replicate (1 - 1) none, [], C_X12_sumSign_p.2.1) : Tg)) (sl := [(0, 0)]) (q := 24) (x := 0) (L := enL as 1) (st := []) (h := h) hΦ (fun j C e => match j, e with | _ + 0, e => (by cases e)) (fun j g e => match j, e with | _ + 0, e => (by cases e)) (RS := C_X12_sumSign_p.2.2) (Rv := (fun r h' => ∃ q, q ∈ C_X12_sumSign_p.2.2 ∧ gR q.1 r ∧ all2 (gC ρ0 τ) q.2 h')) (GR := none) (M := (0, [])) (fun r h' q hq h1 h2 _ => ⟨q, hq, h1, h2⟩) ⟨door ha, trivial, hh⟩ (by decide +kernel)

def P_X12_takes : List Nd := [(2, [], [1, 0]), (26, [-1, -2, -3, -4, -5, -6, -7, -8, -9, -10, -11, -12, -13, -14, -15, -16, -17, -18, -19, -20, -21, -22, -23, -24, -25, -26, -27, -28, -29, -30], [2, 0, 12, 1, 0, 1]), (1, [], [3, 1]), (11, [], [10, 4, 0]), (2, [], [5, 0]), (0, [1], [6]), (2, [], [7, 0]), (18, [], [8, 11, 11]), (26, [-1, -2, -3, -4, -5, -6, -7, -8, 1, -9, -10, -11, -12, -13, -14, -15, -16, -17, -18, -19, -20, -21, -22, -23, -24, -25, -26, -27, -28, -29, -30], [9, 1, 12, 3, 0]), (25, [], []), (2, [], [11, 0]), (2, [], [12, 0]), (18, [], [13, 11, 11]), (0, [1], [14]), (6, [], [15, 0]), (19, [], [16, 11, 0, 11]), (0, [1], [17]), (25, [], [])]
def C_X12_takes : Con := ([.inr (.inr (some (.inl 0))), .inl (0, 255)], hc_f6ee69c243, [(some (0, 1), hc_f6ee69c243)])
set_option maxRecDepth 100000 in
theorem s_X12_takes {l : Launch} : conOk (MetP l 1 yX12_takes cX12_takes 2 (some .boolean) 0 0) C_X12_takes := by
  intro τ hΦ as h ha hh
  refine m_X12_takes  (by rw [all2_len ha]; exact Nat.le_of_ble_eq_true rfl) ?_
  · exact run0 (τ := τ) (P := P_X12_takes) (CE := []) (CS := [C_X12_here, C_X12_wrongAt]) (Ms := [MetP l 0 yX12_here cX12_here 1 (some .int) 0 0, MetP l 0 yX12_wrongAt cX12_wrongAt 3 (some .boolean) 0 0]) (GS := []) (Mg := []) (T := ((C_X12_takes.1.map some ++ List.replicate (2 - 2) none, [], C_X12_takes.2.1) : Tg)) (sl := [(0, 1)]) (q := 20) (x := 0) (L := enL as 2) (st := []) (h := h) hΦ (fun j C e => match j, e with | 0, e => (by cases e; exact s_X12_here) | 1, e => (by cases e; exact s_X12_wrongAt) | _ + 2, e => (by cases e)) (fun j g e => match j, e with | _ + 0, e => (by cases e)) (RS := C_X12_takes.2.2) (Rv := (fun r h' => ∃ q, q ∈ C_X12_takes.2.2 ∧ gR q.1 r ∧ all2 (gC ρ0 τ) q.2 h')) (GR := none) (M := (0, [])) (fun r h' q hq h1 h2 _ => ⟨q, hq, h1, h2⟩) ⟨door ha, trivial, hh⟩ (by decide +kernel)

def P_X12_lowestOn : List Nd := [(0, [0], [1]), (3, [], [15, 2]), (1, [], [3, 2]), (0, [48], [4]), (11, [], [13, 5, 2]), (2, [], [6, 0]), (1, [], [7, 2]), (1, [], [8, 1]), (26, [-1, -2, -3, -4, -5, -6, -7, -8, -9, -10, -11, -12, -13, -14, -15, -16, -17, -18, -19, -20, -21, -22, -23, -24, -25, -26, -27, -28, -29, -30], [9, 0, 12, 3, 0, 1]), (10, [], [12, 10, 0]), (1, [], [11, 2]), (24, [], []), (5, [1], [15, 2]), (0, [-2], [14]), (24, [], []), (27, [], [0])]
def C_X12_lowestOn : Con := ([.inr (.inr (some (.inl 0))), .inl (-2147483648, 2147483647)], hc_348ac27518, [(some (-2147483648, 2147483647), hc_348ac27518)])
def T_X12_lowestOn_2 : Tg × Me := (([some (.inr (.inr (some (.inl 0)))), some (.inl (-2147483648, 2147483647)), some (.inl (0, 48))], [], hc_348ac27518), (49, [(-1, 0, 2)]))
set_option maxRecDepth 100000 in
theorem s_X12_lowestOn {l : Launch} : conOk (MetP l 3 yX12_lowestOn cX12_lowestOn 3 (some .int) 0 0) C_X12_lowestOn := by
  intro τ hΦ as h ha hh
  refine m_X12_lowestOn (Jc τ T_X12_lowestOn_2) (by rw [all2_len ha]; exact Nat.le_of_ble_eq_true rfl) ?_ ?_
  · exact run0 (τ := τ) (P := P_X12_lowestOn) (CE := [T_X12_lowestOn_2]) (CS := [C_X12_sticks]) (Ms := [MetP l 2 yX12_sticks cX12_sticks 3 (some .boolean) 0 0]) (GS := []) (Mg := []) (T := ((C_X12_lowestOn.1.map some ++ List.replicate (3 - 2) none, [], C_X12_lowestOn.2.1) : Tg)) (sl := [(0, 1)]) (q := 18) (x := 0) (L := enL as 3) (st := []) (h := h) hΦ (fun j C e => match j, e with | 0, e => (by cases e; exact s_X12_sticks) | _ + 1, e => (by cases e)) (fun j g e => match j, e with | _ + 0, e => (by cases e)) (RS := C_X12_lowestOn.2.2) (Rv := (fun r h' => ∃ q, q ∈ C_X12_lowestOn.2.2 ∧ gR q.1 r ∧ all2 (gC ρ0 τ) q.2 h')) (GR := none) (M := (0, [])) (fun r h' q hq h1 h2 _ => ⟨q, hq, h1, h2⟩) ⟨door ha, trivial, hh⟩ (by decide +kernel)
  · intro μ L st h hJ
    exact runL (τ := τ) (P := P_X12_lowestOn) (CE := [T_X12_lowestOn_2]) (CS := [C_X12_sticks]) (Ms := [MetP l 2 yX12_sticks cX12_sticks 3 (some .boolean) 0 0]) (GS := []) (Mg := []) (Q := T_X12_lowestOn_2) (sl := [(0, 1), (0, 2)]) (q := 18) (x := 2) hΦ (fun j C e => match j, e with | 0, e => (by cases e; exact s_X12_sticks) | _ + 1, e => (by cases e)) (fun j g e => match j, e with | _ + 0, e => (by cases e)) (RS := C_X12_lowestOn.2.2) (Rv := (fun r h' => ∃ q, q ∈ C_X12_lowestOn.2.2 ∧ gR q.1 r ∧ all2 (gC ρ0 τ) q.2 h')) (fun r h' q hq h1 h2 => ⟨q, hq, h1, h2⟩) hJ (by decide +kernel)

def P_X12_plainPull : List Nd := [(0, [0], [1]), (3, [], [2, 3]), (0, [0], [3]), (3, [], [64, 4]), (1, [], [5, 4]), (0, [48], [6]), (11, [], [62, 7, 2]), (2, [], [8, 0]), (1, [], [9, 4]), (1, [], [10, 1]), (26, [-1, -2, 2, 3, 4, -3, -4, -5, -6, -7, -8, -9, -10, -11, -12, -13, -14, -15, -16, -17, -18, -19, -20, -21, -22, -23, -24, -25, -26, -27], [11, 0, 12, 3, 0, 1]), (10, [], [61, 12, 0]), (2, [], [13, 0]), (18, [], [14, 3, 11]), (2, [], [15, 0]), (18, [], [16, 4, 11]), (1, [], [17, 4]), (20, [], [18, 0]), (20, [], [19, 0]), (0, [-1], [20]), (11, [], [61, 21, 0]), (1, [], [22, 2]), (10, [], [37, 23, 0]), (2, [], [24, 0]), (18, [], [25, 0, 11]), (0, [8], [26]), (1, [], [27, 1]), (6, [], [28, 0]), (20, [], [29, 0]), (2, [], [30, 0]), (18, [], [31, 3, 11]), (2, [], [32, 0]), (18, [], [33, 4, 11]), (1, [], [34, 4]), (20, [], [35, 0]), (20, [], [36, 0]), (26, [], [51, 1, 0, 2]), (2, [], [38, 0]), (18, [], [39, 0, 11]), (0, [8], [40]), (1, [], [41, 1]), (6, [], [42, 0]), (20, [], [43, 0]), (2, [], [44, 0]), (18, [], [45, 3, 11]), (2, [], [46, 0]), (18, [], [47, 4, 11]), (1, [], [48, 4]), (20, [], [49, 0]), (20, [], [50, 0]), (26, [], [51, 2, 0, 2]), (3, [], [52, 5]), (1, [], [53, 3]), (2, [], [54, 0]), (18, [], [55, 5, 11]), (1, [], [56, 4]), (20, [], [57, 0]), (1, [], [58, 5]), (6, [], [59, 2]), (6, [], [60, 0]), (3, [], [61, 3]), (5, [1], [64, 4]), (1, [], [63, 3]), (24, [], []), (27, [], [0])]
def C_X12_plainPull : Con := ([.inr (.inr (some (.inl 0))), .inl (0, 7), .inl (0, 1)], hc_1570bcb7db, [(some (-2147483648, 2147483647), hc_1570bcb7db)])
def T_X12_plainPull_5 : Tg × Me := (([some (.inr (.inr (some (.inl 0)))), some (.inl (0, 7)), some (.inl (0, 1)), some (.inl (-2147483648, 2147483647)), some (.inl (0, 48)), none], [], hc_1570bcb7db), (49, [(-1, 0, 4)]))
set_option maxRecDepth 100000 in
theorem s_X12_plainPull {l : Launch} : conOk (MetP l 3 yX12_plainPull cX12_plainPull 6 (some .int) 0 0) C_X12_plainPull := by
  intro τ hΦ as h ha hh
  refine m_X12_plainPull (Jc τ T_X12_plainPull_5) (by rw [all2_len ha]; exact Nat.le_of_ble_eq_true rfl) ?_ ?_
  · exact run0 (τ := τ) (P := P_X12_plainPull) (CE := [T_X12_plainPull_5]) (CS := [C_X12_sticks, C_X12_acrossTo, C_X12_alongTo]) (Ms := [MetP l 2 yX12_sticks cX12_sticks 3 (some .boolean) 0 0, MetP l 1 yX12_acrossTo cX12_acrossTo 2 (some .int) 0 0, MetP l 1 yX12_alongTo cX12_alongTo 2 (some .int) 0 0]) (GS := []) (Mg := []) (T := ((C_X12_plainPull.1.map some ++ List.replicate (6 - 3) none, [], C_X12_plainPull.2.1) : Tg)) (sl := [(0, 1), (0, 2)]) (q := 67) (x := 0) (L := enL as 6) (st := []) (h := h) hΦ (fun j C e => match j, e with | 0, e => (by cases e; exact s_X12_sticks) | 1, e => (by cases e; exact s_X12_acrossTo) | 2, e => (by cases e; exact s_X12_alongTo) | _ + 3, e => (by cases e)) (fun j g e => match j, e with | _ + 0, e => (by cases e)) (RS := C_X12_plainPull.2.2) (Rv := (fun r h' => ∃ q, q ∈ C_X12_plainPull.2.2 ∧ gR q.1 r ∧ all2 (gC ρ0 τ) q.2 h')) (GR := none) (M := (0, [])) (fun r h' q hq h1 h2 _ => ⟨q, hq, h1, h2⟩) ⟨door ha, trivial, hh⟩ (by decide +kernel)
  · intro μ L st h hJ
    exact runL (τ := τ) (P := P_X12_plainPull) (CE := [T_X12_plainPull_5]) (CS := [C_X12_sticks, C_X12_acrossTo, C_X12_alongTo]) (Ms := [MetP l 2 yX12_sticks cX12_sticks 3 (some .boolean) 0 0, MetP l 1 yX12_acrossTo cX12_acrossTo 2 (some .int) 0 0, MetP l 1 yX12_alongTo cX12_alongTo 2 (some .int) 0 0]) (GS := []) (Mg := []) (Q := T_X12_plainPull_5) (sl := [(0, 1), (0, 2), (0, 3), (0, 4)]) (q := 67) (x := 4) hΦ (fun j C e => match j, e with | 0, e => (by cases e; exact s_X12_sticks) | 1, e => (by cases e; exact s_X12_acrossTo) | 2, e => (by cases e; exact s_X12_alongTo) | _ + 3, e => (by cases e)) (fun j g e => match j, e with | _ + 0, e => (by cases e)) (RS := C_X12_plainPull.2.2) (Rv := (fun r h' => ∃ q, q ∈ C_X12_plainPull.2.2 ∧ gR q.1 r ∧ all2 (gC ρ0 τ) q.2 h')) (fun r h' q hq h1 h2 => ⟨q, hq, h1, h2⟩) hJ (by decide +kernel)

def P_X12_letterIs : List Nd := [(2, [], [1, 0]), (1, [], [2, 1]), (31, [-1, -2, 2, 3, 4, -3, -4, -5, -6, -7, -8, -9, -10, -11, -12, -13, -14, -15, -16, -17, -18, -19, -20, -21, -22, -23, -24, -25, -26, -27], [4, 6, 0, 12, 2, 0, 1]), (10, [], [4, 6, 0]), (0, [-1000], [5]), (24, [], []), (1, [], [7, 2]), (12, [0], [8, 49]), (2, [], [9, 0]), (18, [], [10, 0, 11]), (0, [8], [11]), (1, [], [12, 1]), (6, [], [13, 0]), (20, [], [14, 0]), (24, [], []), (2, [], [16, 0]), (18, [], [17, 0, 11]), (0, [16], [18]), (1, [], [19, 1]), (6, [], [20, 0]), (20, [], [21, 0]), (24, [], []), (2, [], [23, 0]), (18, [], [24, 0, 11]), (0, [24], [25]), (1, [], [26, 1]), (6, [], [27, 0]), (20, [], [28, 0]), (24, [], []), (2, [], [30, 0]), (1, [], [31, 1]), (26, [-1, -2, 2, 3, 4, -3, -4, -5, -6, -7, -8, -9, -10, -11, -12, -13, -14, -15, -16, -17, -18, -19, -20, -21, -22, -23, -24, -25, -26, -27], [32, 0, 12, 2, 0, 1]), (24, [], []), (2, [], [34, 0]), (1, [], [35, 1]), (26, [-1, -2, 2, 3, 4, -3, -4, -5, -6, -7, -8, -9, -10, -11, -12, -13, -14, -15, -16, -17, -18, -19, -20, -21, -22, -23, -24, -25, -26, -27], [36, 1, 12, 2, 0, 1]), (24, [], []), (2, [], [38, 0]), (1, [], [39, 1]), (0, [1], [40]), (26, [-1, -2, -3, -4, -5, -6, -7, -8, -9, -10, -11, -12, -13, -14, -15, -16, -17, -18, -19, -20, -21, -22, -23, -24, -25, -26, -27], [41, 2, 12, 3, 0, 1, 2, 3, 4]), (24, [], []), (2, [], [43, 0]), (1, [], [44, 1]), (0, [0], [45]), (26, [-1, -2, -3, -4, -5, -6, -7, -8, -9, -10, -11, -12, -13, -14, -15, -16, -17, -18, -19, -20, -21, -22, -23, -24, -25, -26, -27], [46, 2, 12, 3, 0, 1, 2, 3, 4]), (24, [], []), (0, [-1000], [48]), (24, [], []), (12, [1], [15, 50]), (12, [2], [22, 51]), (12, [3], [29, 52]), (12, [4], [33, 53]), (12, [5], [37, 54]), (12, [6], [42, 55]), (13, [], [47])]
def C_X12_letterIs : Con := ([.inr (.inr (some (.inl 0))), .inl (-2147483648, 2147483647), .inl (-2147483648, 2147483647)], hc_1570bcb7db, [(some (-2147483648, 2147483647), hc_1570bcb7db)])
set_option maxRecDepth 100000 in
theorem s_X12_letterIs {l : Launch} : conOk (MetP l 4 yX12_letterIs cX12_letterIs 3 (some .int) 0 0) C_X12_letterIs := by
  intro τ hΦ as h ha hh
  refine m_X12_letterIs  (by rw [all2_len ha]; exact Nat.le_of_ble_eq_true rfl) ?_
  · exact run0 (τ := τ) (P := P_X12_letterIs) (CE := []) (CS := [C_X12_stampsOn, C_X12_lowestOn, C_X12_plainPull]) (Ms := [MetP l 3 yX12_stampsOn cX12_stampsOn 4 (some .int) 0 0, MetP l 3 yX12_lowestOn cX12_lowestOn 3 (some .int) 0 0, MetP l 3 yX12_plainPull cX12_plainPull 6 (some .int) 0 0]) (GS := [(G_X12_isTold, 1, 0, 7)]) (Mg := [MetP l 1 yX12_isTold cX12_isTold 2 (some .boolean) 0 0]) (T := ((C_X12_letterIs.1.map some ++ List.replicate (3 - 3) none, [], C_X12_letterIs.2.1) : Tg)) (sl := [(0, 1), (0, 2)]) (q := 58) (x := 0) (L := enL as 3) (st := []) (h := h) hΦ (fun j C e => match j, e with | 0, e => (by cases e; exact s_X12_stampsOn) | 1, e => (by cases e; exact s_X12_lowestOn) | 2, e => (by cases e; exact s_X12_plainPull) | _ + 3, e => (by cases e)) (fun j g e => match j, e with | 0, e => (by cases e; exact gd_X12_isTold) | _ + 1, e => (by cases e)) (RS := C_X12_letterIs.2.2) (Rv := (fun r h' => ∃ q, q ∈ C_X12_letterIs.2.2 ∧ gR q.1 r ∧ all2 (gC ρ0 τ) q.2 h')) (GR := none) (M := (0, [])) (fun r h' q hq h1 h2 _ => ⟨q, hq, h1, h2⟩) ⟨door ha, trivial, hh⟩ (by decide +kernel)

def P_X12_letterOf : List Nd := [(2, [], [1, 0]), (18, [], [2, 0, 11]), (0, [32], [3]), (1, [], [4, 1]), (6, [], [5, 0]), (20, [], [6, 0]), (0, [-1], [7]), (11, [], [8, 9, 0]), (0, [-2], [15]), (2, [], [10, 0]), (18, [], [11, 0, 11]), (0, [32], [12]), (1, [], [13, 1]), (6, [], [14, 0]), (20, [], [15, 0]), (24, [], [])]
def C_X12_letterOf : Con := ([.inr (.inr (some (.inl 0))), .inl (0, 47)], hc_348ac27518, [(some (-2147483648, 2147483647), hc_348ac27518)])
set_option maxRecDepth 100000 in
theorem s_X12_letterOf {l : Launch} : conOk (MetP l 0 yX12_letterOf cX12_letterOf 2 (some .int) 0 0) C_X12_letterOf := by
  intro τ hΦ as h ha hh
  refine m_X12_letterOf  (by rw [all2_len ha]; exact Nat.le_of_ble_eq_true rfl) ?_
  · exact run0 (τ := τ) (P := P_X12_letterOf) (CE := []) (CS := []) (Ms := []) (GS := []) (Mg := []) (T := ((C_X12_letterOf.1.map some ++ List.replicate (2 - 2) none, [], C_X12_letterOf.2.1) : Tg)) (sl := [(0, 1)]) (q := 18) (x := 0) (L := enL as 2) (st := []) (h := h) hΦ (fun j C e => match j, e with | _ + 0, e => (by cases e)) (fun j g e => match j, e with | _ + 0, e => (by cases e)) (RS := C_X12_letterOf.2.2) (Rv := (fun r h' => ∃ q, q ∈ C_X12_letterOf.2.2 ∧ gR q.1 r ∧ all2 (gC ρ0 τ) q.2 h')) (GR := none) (M := (0, [])) (fun r h' q hq h1 h2 _ => ⟨q, hq, h1, h2⟩) ⟨door ha, trivial, hh⟩ (by decide +kernel)

def P_X12_liesSo : List Nd := [(1, [], [1, 1]), (0, [24], [2]), (9, [], [3]), (2, [], [4, 0]), (0, [3], [5]), (1, [], [6, 2]), (6, [], [7, 2]), (26, [-1, -2, -3, -4, -5, -6, -7, -8, -9, -10, -11, -12, -13, -14, -15, -16, -17, -18, -19, -20, -21, -22, -23, -24, -25, -26, -27, -28, -29, -30], [8, 0, 12, 2, 0, 1]), (6, [], [9, 1]), (3, [], [10, 3]), (1, [], [11, 1]), (0, [24], [12]), (8, [], [13]), (2, [], [14, 0]), (0, [3], [15]), (1, [], [16, 2]), (6, [], [17, 2]), (0, [1], [18]), (6, [], [19, 0]), (26, [-1, -2, -3, -4, -5, -6, -7, -8, -9, -10, -11, -12, -13, -14, -15, -16, -17, -18, -19, -20, -21, -22, -23, -24, -25, -26, -27, -28, -29, -30], [20, 0, 12, 2, 0, 1]), (6, [], [21, 1]), (3, [], [22, 4]), (1, [], [23, 3]), (10, [], [25, 24, 4]), (0, [1], [26]), (0, [0], [26]), (1, [], [27, 3]), (10, [], [29, 28, 2]), (0, [2], [30]), (0, [0], [30]), (6, [], [31, 0]), (1, [], [32, 4]), (10, [], [34, 33, 4]), (0, [4], [35]), (0, [0], [35]), (6, [], [36, 0]), (1, [], [37, 4]), (10, [], [39, 38, 2]), (0, [8], [40]), (0, [0], [40]), (6, [], [41, 0]), (3, [], [42, 5]), (1, [], [43, 5]), (2, [], [44, 0]), (0, [3], [45]), (1, [], [46, 2]), (6, [], [47, 2]), (0, [2], [48]), (6, [], [49, 0]), (26, [-1, -2, -3, -4, -5, -6, -7, -8, -9, -10, -11, -12, -13, -14, -15, -16, -17, -18, -19, -20, -21, -22, -23, -24, -25, -26, -27, -28, -29, -30], [50, 0, 12, 2, 0, 1]), (11, [], [51, 52, 0]), (0, [1], [53]), (0, [0], [53]), (25, [], [])]
def C_X12_liesSo : Con := ([.inr (.inr (some (.inl 0))), .inl (-2147483648, 2147483647), .inl (0, 9)], hc_f6ee69c243, [(some (0, 1), hc_f6ee69c243)])
set_option maxRecDepth 100000 in
theorem s_X12_liesSo {l : Launch} : conOk (MetP l 1 yX12_liesSo cX12_liesSo 6 (some .boolean) 0 0) C_X12_liesSo := by
  intro τ hΦ as h ha hh
  refine m_X12_liesSo  (by rw [all2_len ha]; exact Nat.le_of_ble_eq_true rfl) ?_
  · exact run0 (τ := τ) (P := P_X12_liesSo) (CE := []) (CS := [C_X12_octet]) (Ms := [MetP l 0 yX12_octet cX12_octet 2 (some .int) 0 0]) (GS := []) (Mg := []) (T := ((C_X12_liesSo.1.map some ++ List.replicate (6 - 3) none, [], C_X12_liesSo.2.1) : Tg)) (sl := [(0, 1), (0, 2)]) (q := 56) (x := 0) (L := enL as 6) (st := []) (h := h) hΦ (fun j C e => match j, e with | 0, e => (by cases e; exact s_X12_octet) | _ + 1, e => (by cases e)) (fun j g e => match j, e with | _ + 0, e => (by cases e)) (RS := C_X12_liesSo.2.2) (Rv := (fun r h' => ∃ q, q ∈ C_X12_liesSo.2.2 ∧ gR q.1 r ∧ all2 (gC ρ0 τ) q.2 h')) (GR := none) (M := (0, [])) (fun r h' q hq h1 h2 _ => ⟨q, hq, h1, h2⟩) ⟨door ha, trivial, hh⟩ (by decide +kernel)

def P_X12_lying : List Nd := [(1, [], [1, 1]), (31, [], [3, 5, 0, 0, 1]), (10, [], [3, 5, 0]), (0, [-1], [4]), (24, [], []), (0, [0], [6]), (3, [], [7, 2]), (0, [0], [8]), (3, [], [33, 3]), (1, [], [10, 3]), (0, [8], [11]), (11, [], [31, 12, 2]), (2, [], [13, 0]), (1, [], [14, 3]), (31, [-1, -2, -3, -4, -5, -6, -7, -8, -9, -10, -11, -12, -13, -14, -15, -16, -17, -18, -19, -20, -21, -22, -23, -24, -25, -26, -27, -28, -29, -30], [30, 16, 1, 12, 2, 0, 1]), (10, [], [30, 16, 0]), (2, [], [17, 0]), (18, [], [18, 0, 11]), (0, [8], [19]), (1, [], [20, 3]), (6, [], [21, 0]), (20, [], [22, 0]), (1, [], [23, 1]), (11, [], [24, 30, 0]), (1, [], [25, 2]), (0, [1], [26]), (1, [], [27, 3]), (6, [], [28, 6]), (6, [], [29, 4]), (3, [], [30, 2]), (5, [1], [33, 3]), (1, [], [32, 2]), (24, [], []), (27, [], [0])]
def C_X12_lying : Con := ([.inr (.inr (some (.inl 0))), .inl (-2147483648, 2147483647)], hc_348ac27518, [(some (-2147483648, 2147483647), hc_348ac27518)])
def T_X12_lying_13 : Tg × Me := (([some (.inr (.inr (some (.inl 0)))), some (.inl (0, 383)), some (.inl (-2147483648, 2147483647)), some (.inl (0, 8))], [], hc_348ac27518), (9, [(-1, 0, 3)]))
set_option maxRecDepth 100000 in
theorem s_X12_lying {l : Launch} : conOk (MetP l 2 yX12_lying cX12_lying 4 (some .int) 0 0) C_X12_lying := by
  intro τ hΦ as h ha hh
  refine m_X12_lying (Jc τ T_X12_lying_13) (by rw [all2_len ha]; exact Nat.le_of_ble_eq_true rfl) ?_ ?_
  · exact run0 (τ := τ) (P := P_X12_lying) (CE := [T_X12_lying_13]) (CS := []) (Ms := []) (GS := [(([topA], [], some (0, 1), []), 0, 0, 383), (G_X12_isTold, 1, 0, 7)]) (Mg := [MetP l 1 yX12_isPlace cX12_isPlace 1 (some .boolean) 0 0, MetP l 1 yX12_isTold cX12_isTold 2 (some .boolean) 0 0]) (T := ((C_X12_lying.1.map some ++ List.replicate (4 - 2) none, [], C_X12_lying.2.1) : Tg)) (sl := [(0, 1)]) (q := 36) (x := 0) (L := enL as 4) (st := []) (h := h) hΦ (fun j C e => match j, e with | _ + 0, e => (by cases e)) (fun j g e => match j, e with | 0, e => (by cases e; exact gd_misPlace) | 1, e => (by cases e; exact gd_X12_isTold) | _ + 2, e => (by cases e)) (RS := C_X12_lying.2.2) (Rv := (fun r h' => ∃ q, q ∈ C_X12_lying.2.2 ∧ gR q.1 r ∧ all2 (gC ρ0 τ) q.2 h')) (GR := none) (M := (0, [])) (fun r h' q hq h1 h2 _ => ⟨q, hq, h1, h2⟩) ⟨door ha, trivial, hh⟩ (by decide +kernel)
  · intro μ L st h hJ
    exact runL (τ := τ) (P := P_X12_lying) (CE := [T_X12_lying_13]) (CS := []) (Ms := []) (GS := [(([topA], [], some (0, 1), []), 0, 0, 383), (G_X12_isTold, 1, 0, 7)]) (Mg := [MetP l 1 yX12_isPlace cX12_isPlace 1 (some .boolean) 0 0, MetP l 1 yX12_isTold cX12_isTold 2 (some .boolean) 0 0]) (Q := T_X12_lying_13) (sl := [(0, 1), (0, 2), (0, 3)]) (q := 36) (x := 9) hΦ (fun j C e => match j, e with | _ + 0, e => (by cases e)) (fun j g e => match j, e with | 0, e => (by cases e; exact gd_misPlace) | 1, e => (by cases e; exact gd_X12_isTold) | _ + 2, e => (by cases e)) (RS := C_X12_lying.2.2) (Rv := (fun r h' => ∃ q, q ∈ C_X12_lying.2.2 ∧ gR q.1 r ∧ all2 (gC ρ0 τ) q.2 h')) (fun r h' q hq h1 h2 => ⟨q, hq, h1, h2⟩) hJ (by decide +kernel)

def P_X12_mint : List Nd := [(1, [], [1, 1]), (0, [0], [2]), (0, [7], [3]), (31, [], [15, 5, 0, 0, 3]), (10, [], [15, 5, 0]), (1, [], [6, 2]), (0, [0], [7]), (0, [23], [8]), (31, [], [15, 10, 1, 0, 3]), (10, [], [15, 10, 0]), (1, [], [11, 3]), (0, [0], [12]), (0, [15], [13]), (31, [], [15, 17, 2, 0, 3]), (10, [], [15, 17, 0]), (0, [0], [16]), (25, [], []), (2, [], [18, 0]), (18, [], [19, 3, 11]), (1, [], [20, 1]), (0, [24], [21]), (1, [], [22, 3]), (6, [], [23, 2]), (1, [], [24, 2]), (6, [], [25, 0]), (21, [], [26, 0]), (0, [1], [27]), (25, [], [])]
def C_X12_mint : Con := ([.inr (.inr (some (.inl 0))), .inl (-2147483648, 2147483647), .inl (-2147483648, 2147483647), .inl (-2147483648, 2147483647)], hc_f49572744a, [(some (0, 1), hc_f49572744a)])
set_option maxRecDepth 100000 in
theorem s_X12_mint {l : Launch} : conOk (MetP l 1 yX12_mint cX12_mint 4 (some .boolean) 0 0) C_X12_mint := by
  intro τ hΦ as h ha hh
  refine m_X12_mint  (by rw [all2_len ha]; exact Nat.le_of_ble_eq_true rfl) ?_
  · exact run0 (τ := τ) (P := P_X12_mint) (CE := []) (CS := []) (Ms := []) (GS := [(([topA, .inl (0, 2147483647), .inl (-2147483648, 7)], [], some (0, 1), []), 0, 0, 7), (([topA, .inl (0, 2147483647), .inl (-2147483648, 23)], [], some (0, 1), []), 0, 0, 23), (([topA, .inl (0, 2147483647), .inl (-2147483648, 15)], [], some (0, 1), []), 0, 0, 15)]) (Mg := [MetP l 0 yX12_in cX12_in 3 (some .boolean) 0 0, MetP l 0 yX12_in cX12_in 3 (some .boolean) 0 0, MetP l 0 yX12_in cX12_in 3 (some .boolean) 0 0]) (T := ((C_X12_mint.1.map some ++ List.replicate (4 - 4) none, [], C_X12_mint.2.1) : Tg)) (sl := [(0, 1), (0, 2), (0, 3)]) (q := 30) (x := 0) (L := enL as 4) (st := []) (h := h) hΦ (fun j C e => match j, e with | _ + 0, e => (by cases e)) (fun j g e => match j, e with | 0, e => (by cases e; exact gd_in (0) (7)) | 1, e => (by cases e; exact gd_in (0) (23)) | 2, e => (by cases e; exact gd_in (0) (15)) | _ + 3, e => (by cases e)) (RS := C_X12_mint.2.2) (Rv := (fun r h' => ∃ q, q ∈ C_X12_mint.2.2 ∧ gR q.1 r ∧ all2 (gC ρ0 τ) q.2 h')) (GR := none) (M := (0, [])) (fun r h' q hq h1 h2 _ => ⟨q, hq, h1, h2⟩) ⟨door ha, trivial, hh⟩ (by decide +kernel)

def P_X12_sumOf : List Nd := [(0, [0], [1]), (3, [], [2, 3]), (0, [0], [3]), (3, [], [20, 4]), (1, [], [5, 4]), (1, [], [6, 2]), (11, [], [18, 7, 2]), (1, [], [8, 1]), (1, [], [9, 4]), (26, [], [10, 0, 0, 2]), (10, [], [17, 11, 0]), (1, [], [12, 3]), (2, [], [13, 0]), (1, [], [14, 4]), (26, [-1, -2, -3, -4, -5, -6, -7, -8, -9, -10, -11, -12, -13, -14, -15, -16, -17, -18, -19, -20, -21, -22, -23, -24, -25, -26, -27, -28, -29, -30], [15, 1, 12, 2, 0, 1]), (6, [], [16, 0]), (3, [], [17, 3]), (5, [1], [20, 4]), (1, [], [19, 3]), (24, [], []), (27, [], [0])]
def C_X12_sumOf : Con := ([.inr (.inr (some (.inl 0))), .inl (-2147483648, 2147483647), .inl (0, 12)], hc_f6ee69c243, [(some (-2147483648, 2147483647), hc_f6ee69c243)])
def T_X12_sumOf_5 : Tg × Me := (([some (.inr (.inr (some (.inl 0)))), some (.inl (-2147483648, 2147483647)), some (.inl (0, 12)), some (.inl (-2147483648, 2147483647)), some (.inl (0, 15))], [], hc_f6ee69c243), (16, [(-1, 0, 4)]))
set_option maxRecDepth 100000 in
theorem s_X12_sumOf {l : Launch} : conOk (MetP l 1 yX12_sumOf cX12_sumOf 5 (some .int) 0 0) C_X12_sumOf := by
  intro τ hΦ as h ha hh
  refine m_X12_sumOf (Jc τ T_X12_sumOf_5) (by rw [all2_len ha]; exact Nat.le_of_ble_eq_true rfl) ?_ ?_
  · exact run0 (τ := τ) (P := P_X12_sumOf) (CE := [T_X12_sumOf_5]) (CS := [C_X12_has, C_X12_octet]) (Ms := [MetP l 0 yX12_has cX12_has 2 (some .boolean) 0 0, MetP l 0 yX12_octet cX12_octet 2 (some .int) 0 0]) (GS := []) (Mg := []) (T := ((C_X12_sumOf.1.map some ++ List.replicate (5 - 3) none, [], C_X12_sumOf.2.1) : Tg)) (sl := [(0, 1), (0, 2)]) (q := 23) (x := 0) (L := enL as 5) (st := []) (h := h) hΦ (fun j C e => match j, e with | 0, e => (by cases e; exact s_X12_has) | 1, e => (by cases e; exact s_X12_octet) | _ + 2, e => (by cases e)) (fun j g e => match j, e with | _ + 0, e => (by cases e)) (RS := C_X12_sumOf.2.2) (Rv := (fun r h' => ∃ q, q ∈ C_X12_sumOf.2.2 ∧ gR q.1 r ∧ all2 (gC ρ0 τ) q.2 h')) (GR := none) (M := (0, [])) (fun r h' q hq h1 h2 _ => ⟨q, hq, h1, h2⟩) ⟨door ha, trivial, hh⟩ (by decide +kernel)
  · intro μ L st h hJ
    exact runL (τ := τ) (P := P_X12_sumOf) (CE := [T_X12_sumOf_5]) (CS := [C_X12_has, C_X12_octet]) (Ms := [MetP l 0 yX12_has cX12_has 2 (some .boolean) 0 0, MetP l 0 yX12_octet cX12_octet 2 (some .int) 0 0]) (GS := []) (Mg := []) (Q := T_X12_sumOf_5) (sl := [(0, 1), (0, 2), (0, 3), (0, 4)]) (q := 23) (x := 4) hΦ (fun j C e => match j, e with | 0, e => (by cases e; exact s_X12_has) | 1, e => (by cases e; exact s_X12_octet) | _ + 2, e => (by cases e)) (fun j g e => match j, e with | _ + 0, e => (by cases e)) (RS := C_X12_sumOf.2.2) (Rv := (fun r h' => ∃ q, q ∈ C_X12_sumOf.2.2 ∧ gR q.1 r ∧ all2 (gC ρ0 τ) q.2 h')) (fun r h' q hq h1 h2 => ⟨q, hq, h1, h2⟩) hJ (by decide +kernel)

def P_X12_mule : List Nd := [(1, [], [1, 1]), (0, [1], [2]), (0, [12], [3]), (31, [], [19, 5, 0, 0, 3]), (10, [], [19, 5, 0]), (1, [], [6, 2]), (0, [0], [7]), (0, [3060], [8]), (31, [], [19, 10, 1, 0, 3]), (10, [], [19, 10, 0]), (1, [], [11, 3]), (0, [0], [12]), (0, [2], [13]), (31, [], [19, 15, 2, 0, 3]), (10, [], [19, 15, 0]), (1, [], [16, 1]), (2, [], [17, 0]), (18, [], [18, 10, 11]), (11, [], [21, 19, 4]), (0, [-1], [20]), (24, [], []), (2, [], [22, 0]), (0, [0], [23]), (19, [], [24, 10, 0, 11]), (0, [-2], [25]), (3, [], [26, 4]), (0, [0], [27]), (3, [], [28, 5]), (0, [0], [29]), (3, [], [79, 6]), (1, [], [31, 6]), (0, [1], [32]), (1, [], [33, 1]), (6, [], [34, 6]), (11, [], [64, 35, 2]), (2, [], [36, 0]), (1, [], [37, 6]), (1, [], [38, 1]), (26, [-1, -2, -3, -4, -5, -6, -7, -8, -9, -10, -11, -12, -13, -14, -15, -16, -17, -18, -19, -20, -21, -22, -23, -24, -25, -26, -27, -28, -29, -30], [39, 0, 12, 3, 0, 1]), (3, [], [40, 7]), (1, [], [41, 7]), (1, [], [42, 2]), (11, [], [63, 43, 1]), (1, [], [44, 4]), (0, [-2], [45]), (11, [], [59, 46, 0]), (1, [], [47, 6]), (26, [], [48, 1, 0, 1]), (1, [], [49, 4]), (26, [], [50, 1, 0, 1]), (11, [], [63, 51, 3]), (1, [], [52, 6]), (26, [], [53, 1, 0, 1]), (1, [], [54, 4]), (26, [], [55, 1, 0, 1]), (11, [], [56, 59, 0]), (1, [], [57, 7]), (1, [], [58, 5]), (11, [], [59, 63, 1]), (1, [], [60, 6]), (3, [], [61, 4]), (1, [], [62, 7]), (3, [], [63, 5]), (5, [1], [79, 6]), (1, [], [65, 4]), (0, [-2], [66]), (11, [], [67, 69, 0]), (0, [-2], [68]), (24, [], []), (1, [], [70, 3]), (10, [], [71, 73, 0]), (1, [], [72, 4]), (26, [], [78, 1, 0, 1]), (1, [], [74, 3]), (0, [1], [75]), (11, [], [76, 77, 0]), (1, [], [78, 4]), (1, [], [78, 5]), (24, [], []), (27, [], [0])]
def C_X12_mule : Con := ([.inr (.inr (some (.inl 0))), .inl (-2147483648, 2147483647), .inl (-2147483648, 2147483647), .inl (-2147483648, 2147483647)], hc_f6ee69c243, [(some (-2147483648, 2147483647), hc_f6ee69c243)])
def T_X12_mule_55 : Tg × Me := (([some (.inr (.inr (some (.inl 0)))), some (.inl (1, 12)), some (.inl (0, 3060)), some (.inl (0, 2)), some (.inl (-2, 1000000)), some (.inl (0, 2147483647)), some (.inl (0, 1000000)), none], [], hc_f6ee69c243), (1000001, [(-1, 0, 6)]))
set_option maxRecDepth 100000 in
theorem s_X12_mule {l : Launch} : conOk (MetP l 2 yX12_mule cX12_mule 8 (some .int) 0 0) C_X12_mule := by
  intro τ hΦ as h ha hh
  refine m_X12_mule (Jc τ T_X12_mule_55) (by rw [all2_len ha]; exact Nat.le_of_ble_eq_true rfl) ?_ ?_
  · exact run0 (τ := τ) (P := P_X12_mule) (CE := [T_X12_mule_55]) (CS := [C_X12_sumOf, C_X12_bits]) (Ms := [MetP l 1 yX12_sumOf cX12_sumOf 5 (some .int) 0 0, MetP l 0 yX12_bits cX12_bits 3 (some .int) 0 0]) (GS := [(([topA, .inl (1, 2147483647), .inl (-2147483648, 12)], [], some (0, 1), []), 0, 1, 12), (([topA, .inl (0, 2147483647), .inl (-2147483648, 3060)], [], some (0, 1), []), 0, 0, 3060), (([topA, .inl (0, 2147483647), .inl (-2147483648, 2)], [], some (0, 1), []), 0, 0, 2)]) (Mg := [MetP l 0 yX12_in cX12_in 3 (some .boolean) 0 0, MetP l 0 yX12_in cX12_in 3 (some .boolean) 0 0, MetP l 0 yX12_in cX12_in 3 (some .boolean) 0 0]) (T := ((C_X12_mule.1.map some ++ List.replicate (8 - 4) none, [], C_X12_mule.2.1) : Tg)) (sl := [(0, 1), (0, 2), (0, 3)]) (q := 82) (x := 0) (L := enL as 8) (st := []) (h := h) hΦ (fun j C e => match j, e with | 0, e => (by cases e; exact s_X12_sumOf) | 1, e => (by cases e; exact s_X12_bits) | _ + 2, e => (by cases e)) (fun j g e => match j, e with | 0, e => (by cases e; exact gd_in (1) (12)) | 1, e => (by cases e; exact gd_in (0) (3060)) | 2, e => (by cases e; exact gd_in (0) (2)) | _ + 3, e => (by cases e)) (RS := C_X12_mule.2.2) (Rv := (fun r h' => ∃ q, q ∈ C_X12_mule.2.2 ∧ gR q.1 r ∧ all2 (gC ρ0 τ) q.2 h')) (GR := none) (M := (0, [])) (fun r h' q hq h1 h2 _ => ⟨q, hq, h1, h2⟩) ⟨door ha, trivial, hh⟩ (by decide +kernel)
  · intro μ L st h hJ
    exact runL (τ := τ) (P := P_X12_mule) (CE := [T_X12_mule_55]) (CS := [C_X12_sumOf, C_X12_bits]) (Ms := [MetP l 1 yX12_sumOf cX12_sumOf 5 (some .int) 0 0, MetP l 0 yX12_bits cX12_bits 3 (some .int) 0 0]) (GS := [(([topA, .inl (1, 2147483647), .inl (-2147483648, 12)], [], some (0, 1), []), 0, 1, 12), (([topA, .inl (0, 2147483647), .inl (-2147483648, 3060)], [], some (0, 1), []), 0, 0, 3060), (([topA, .inl (0, 2147483647), .inl (-2147483648, 2)], [], some (0, 1), []), 0, 0, 2)]) (Mg := [MetP l 0 yX12_in cX12_in 3 (some .boolean) 0 0, MetP l 0 yX12_in cX12_in 3 (some .boolean) 0 0, MetP l 0 yX12_in cX12_in 3 (some .boolean) 0 0]) (Q := T_X12_mule_55) (sl := [(0, 1), (0, 2), (0, 3), (0, 4), (0, 5), (0, 6)]) (q := 82) (x := 30) hΦ (fun j C e => match j, e with | 0, e => (by cases e; exact s_X12_sumOf) | 1, e => (by cases e; exact s_X12_bits) | _ + 2, e => (by cases e)) (fun j g e => match j, e with | 0, e => (by cases e; exact gd_in (1) (12)) | 1, e => (by cases e; exact gd_in (0) (3060)) | 2, e => (by cases e; exact gd_in (0) (2)) | _ + 3, e => (by cases e)) (RS := C_X12_mule.2.2) (Rv := (fun r h' => ∃ q, q ∈ C_X12_mule.2.2 ∧ gR q.1 r ∧ all2 (gC ρ0 τ) q.2 h')) (fun r h' q hq h1 h2 => ⟨q, hq, h1, h2⟩) hJ (by decide +kernel)

def P_X12_printed : List Nd := [(1, [], [1, 1]), (0, [1], [2]), (0, [10], [3]), (31, [], [11, 5, 0, 0, 3]), (10, [], [11, 5, 0]), (0, [3], [6]), (1, [], [7, 1]), (6, [], [8, 2]), (2, [], [9, 0]), (18, [], [10, 10, 11]), (11, [], [13, 11, 4]), (0, [-1], [12]), (24, [], []), (2, [], [14, 0]), (0, [0], [15]), (19, [], [16, 10, 0, 11]), (0, [0], [17]), (3, [], [18, 2]), (0, [0], [19]), (3, [], [59, 3]), (1, [], [21, 3]), (0, [8], [22]), (11, [], [57, 23, 2]), (2, [], [24, 0]), (18, [], [25, 3, 11]), (1, [], [26, 3]), (20, [], [27, 0]), (0, [-1], [28]), (11, [], [30, 29, 0]), (0, [1], [31]), (0, [0], [31]), (3, [], [32, 4]), (0, [0], [33]), (3, [], [60, 5]), (1, [], [35, 5]), (1, [], [36, 1]), (11, [], [48, 37, 2]), (1, [], [38, 4]), (10, [], [48, 39, 0]), (2, [], [40, 0]), (2, [], [41, 0]), (18, [], [42, 3, 11]), (1, [], [43, 3]), (20, [], [44, 0]), (1, [], [45, 5]), (26, [-1, -2, -3, 1, -4, -5, -6, -7, -8, -9, -10, -11, -12, -13, -14, -15, -16, -17, -18, -19, -20, -21, -22, -23, -24, -25, -26, -27, -28, -29], [46, 0, 12, 3, 0, 2]), (3, [], [47, 4]), (5, [1], [60, 5]), (1, [], [49, 4]), (10, [], [56, 50, 0]), (1, [], [51, 2]), (0, [1], [52]), (1, [], [53, 3]), (6, [], [54, 6]), (6, [], [55, 4]), (3, [], [56, 2]), (5, [1], [59, 3]), (1, [], [58, 2]), (24, [], []), (27, [], [0]), (27, [], [1])]
def C_X12_printed : Con := ([.inr (.inr (some (.inl 0))), .inl (-2147483648, 2147483647)], hc_254130797e, [(some (-2147483648, 2147483647), hc_254130797e)])
def T_X12_printed_31 : Tg × Me := (([some (.inr (.inr (some (.inl 0)))), some (.inl (1, 10)), some (.inl (-2147483648, 2147483647)), some (.inl (0, 8)), none, none], [], hc_254130797e), (117, [(-13, 0, 3)]))
def T_X12_printed_57 : Tg × Me := (([some (.inr (.inr (some (.inl 0)))), some (.inl (1, 10)), some (.inl (-2147483648, 2147483647)), some (.inl (0, 7)), some (.inl (0, 1)), some (.inl (0, 10))], [], hc_254130797e), (115, [(-1, 0, 5), (-13, 0, 3)]))
set_option maxRecDepth 100000 in
theorem s_X12_printed {l : Launch} : conOk (MetP l 2 yX12_printed cX12_printed 6 (some .int) 0 0) C_X12_printed := by
  intro τ hΦ as h ha hh
  refine m_X12_printed (Jc τ T_X12_printed_31) (Jc τ T_X12_printed_57) (by rw [all2_len ha]; exact Nat.le_of_ble_eq_true rfl) ?_ ?_ ?_
  · exact run0 (τ := τ) (P := P_X12_printed) (CE := [T_X12_printed_31, T_X12_printed_57]) (CS := [C_X12_liesSo]) (Ms := [MetP l 1 yX12_liesSo cX12_liesSo 6 (some .boolean) 0 0]) (GS := [(([topA, .inl (1, 2147483647), .inl (-2147483648, 10)], [], some (0, 1), []), 0, 1, 10)]) (Mg := [MetP l 0 yX12_in cX12_in 3 (some .boolean) 0 0]) (T := ((C_X12_printed.1.map some ++ List.replicate (6 - 2) none, [], C_X12_printed.2.1) : Tg)) (sl := [(0, 1)]) (q := 63) (x := 0) (L := enL as 6) (st := []) (h := h) hΦ (fun j C e => match j, e with | 0, e => (by cases e; exact s_X12_liesSo) | _ + 1, e => (by cases e)) (fun j g e => match j, e with | 0, e => (by cases e; exact gd_in (1) (10)) | _ + 1, e => (by cases e)) (RS := C_X12_printed.2.2) (Rv := (fun r h' => ∃ q, q ∈ C_X12_printed.2.2 ∧ gR q.1 r ∧ all2 (gC ρ0 τ) q.2 h')) (GR := none) (M := (0, [])) (fun r h' q hq h1 h2 _ => ⟨q, hq, h1, h2⟩) ⟨door ha, trivial, hh⟩ (by decide +kernel)
  · intro μ L st h hJ
    exact runL (τ := τ) (P := P_X12_printed) (CE := [T_X12_printed_31, T_X12_printed_57]) (CS := [C_X12_liesSo]) (Ms := [MetP l 1 yX12_liesSo cX12_liesSo 6 (some .boolean) 0 0]) (GS := [(([topA, .inl (1, 2147483647), .inl (-2147483648, 10)], [], some (0, 1), []), 0, 1, 10)]) (Mg := [MetP l 0 yX12_in cX12_in 3 (some .boolean) 0 0]) (Q := T_X12_printed_31) (sl := [(0, 1), (0, 2), (0, 3)]) (q := 63) (x := 20) hΦ (fun j C e => match j, e with | 0, e => (by cases e; exact s_X12_liesSo) | _ + 1, e => (by cases e)) (fun j g e => match j, e with | 0, e => (by cases e; exact gd_in (1) (10)) | _ + 1, e => (by cases e)) (RS := C_X12_printed.2.2) (Rv := (fun r h' => ∃ q, q ∈ C_X12_printed.2.2 ∧ gR q.1 r ∧ all2 (gC ρ0 τ) q.2 h')) (fun r h' q hq h1 h2 => ⟨q, hq, h1, h2⟩) hJ (by decide +kernel)
  · intro μ L st h hJ
    exact runL (τ := τ) (P := P_X12_printed) (CE := [T_X12_printed_31, T_X12_printed_57]) (CS := [C_X12_liesSo]) (Ms := [MetP l 1 yX12_liesSo cX12_liesSo 6 (some .boolean) 0 0]) (GS := [(([topA, .inl (1, 2147483647), .inl (-2147483648, 10)], [], some (0, 1), []), 0, 1, 10)]) (Mg := [MetP l 0 yX12_in cX12_in 3 (some .boolean) 0 0]) (Q := T_X12_printed_57) (sl := [(0, 1), (0, 2), (0, 3), (0, 4), (0, 5)]) (q := 63) (x := 34) hΦ (fun j C e => match j, e with | 0, e => (by cases e; exact s_X12_liesSo) | _ + 1, e => (by cases e)) (fun j g e => match j, e with | 0, e => (by cases e; exact gd_in (1) (10)) | _ + 1, e => (by cases e)) (RS := C_X12_printed.2.2) (Rv := (fun r h' => ∃ q, q ∈ C_X12_printed.2.2 ∧ gR q.1 r ∧ all2 (gC ρ0 τ) q.2 h')) (fun r h' q hq h1 h2 => ⟨q, hq, h1, h2⟩) hJ (by decide +kernel)

def P_X12_seed : List Nd := [(1, [], [1, 1]), (0, [0], [2]), (0, [65535], [3]), (26, [], [4, 0, 0, 3]), (10, [], [5, 7, 0]), (0, [0], [6]), (25, [], []), (2, [], [8, 0]), (18, [], [9, 0, 11]), (0, [129], [10]), (1, [], [11, 1]), (21, [], [12, 0]), (0, [1], [13]), (25, [], [])]
def C_X12_seed : Con := ([.inr (.inr (some (.inl 0))), .inl (-2147483648, 2147483647)], hc_348ac27518, [(some (0, 1), hc_348ac27518)])
set_option maxRecDepth 100000 in
theorem s_X12_seed {l : Launch} : conOk (MetP l 1 yX12_seed cX12_seed 2 (some .boolean) 0 0) C_X12_seed := by
  intro τ hΦ as h ha hh
  refine m_X12_seed  (by rw [all2_len ha]; exact Nat.le_of_ble_eq_true rfl) ?_
  · exact run0 (τ := τ) (P := P_X12_seed) (CE := []) (CS := [C_X12_in]) (Ms := [MetP l 0 yX12_in cX12_in 3 (some .boolean) 0 0]) (GS := []) (Mg := []) (T := ((C_X12_seed.1.map some ++ List.replicate (2 - 2) none, [], C_X12_seed.2.1) : Tg)) (sl := [(0, 1)]) (q := 16) (x := 0) (L := enL as 2) (st := []) (h := h) hΦ (fun j C e => match j, e with | 0, e => (by cases e; exact s_X12_in) | _ + 1, e => (by cases e)) (fun j g e => match j, e with | _ + 0, e => (by cases e)) (RS := C_X12_seed.2.2) (Rv := (fun r h' => ∃ q, q ∈ C_X12_seed.2.2 ∧ gR q.1 r ∧ all2 (gC ρ0 τ) q.2 h')) (GR := none) (M := (0, [])) (fun r h' q hq h1 h2 _ => ⟨q, hq, h1, h2⟩) ⟨door ha, trivial, hh⟩ (by decide +kernel)

def P_X12_ship : List Nd := [(1, [], [1, 1]), (0, [1], [2]), (0, [10], [3]), (31, [], [14, 5, 0, 0, 3]), (10, [], [14, 5, 0]), (1, [], [6, 2]), (0, [0], [7]), (0, [1], [8]), (31, [], [14, 10, 1, 0, 3]), (10, [], [14, 10, 0]), (1, [], [11, 1]), (2, [], [12, 0]), (18, [], [13, 10, 11]), (11, [], [16, 14, 4]), (0, [-1], [15]), (24, [], []), (2, [], [17, 0]), (0, [0], [18]), (19, [], [19, 10, 0, 11]), (2, [], [20, 0]), (0, [1], [21]), (1, [], [22, 1]), (6, [], [23, 6]), (0, [1], [24]), (6, [], [25, 1]), (1, [], [26, 1]), (26, [-1, -2, -3, -4, -5, -6, -7, -8, -9, -10, -11, -12, -13, -14, -15, -16, -17, -18, -19, -20, -21, -22, -23, -24, -25, -26, -27, -28, -29, -30], [27, 0, 12, 3, 0, 1]), (3, [], [28, 3]), (0, [1000000], [29]), (3, [], [30, 4]), (0, [0], [31]), (3, [], [32, 5]), (0, [1], [33]), (3, [], [65, 6]), (1, [], [35, 6]), (0, [1], [36]), (1, [], [37, 1]), (6, [], [38, 6]), (11, [], [60, 39, 2]), (1, [], [40, 3]), (0, [2], [41]), (2, [], [42, 0]), (1, [], [43, 6]), (1, [], [44, 1]), (26, [-1, -2, -3, -4, -5, -6, -7, -8, -9, -10, -11, -12, -13, -14, -15, -16, -17, -18, -19, -20, -21, -22, -23, -24, -25, -26, -27, -28, -29, -30], [45, 0, 12, 3, 0, 1]), (6, [], [46, 2]), (6, [], [47, 1]), (26, [], [48, 1, 0, 1]), (3, [], [49, 7]), (1, [], [50, 7]), (1, [], [51, 4]), (11, [], [52, 56, 1]), (1, [], [53, 7]), (3, [], [54, 4]), (1, [], [55, 6]), (3, [], [56, 5]), (1, [], [57, 6]), (0, [2], [58]), (6, [], [59, 0]), (3, [], [65, 6]), (1, [], [61, 2]), (10, [], [62, 63, 0]), (1, [], [64, 4]), (1, [], [64, 5]), (24, [], []), (27, [], [0])]
def C_X12_ship : Con := ([.inr (.inr (some (.inl 0))), .inl (-2147483648, 2147483647), .inl (-2147483648, 2147483647)], hc_f6ee69c243, [(some (-2147483648, 2147483647), hc_f6ee69c243)])
def T_X12_ship_56 : Tg × Me := (([some (.inr (.inr (some (.inl 0)))), some (.inl (1, 10)), some (.inl (0, 1)), some (.inl (-2147483648, 2147483647)), some (.inl (-2147483648, 1000000)), some (.inl (0, 1000000)), some (.inl (1, 1000000)), none], [], hc_f6ee69c243), (1000001, [(-1, 0, 6)]))
set_option maxRecDepth 100000 in
theorem s_X12_ship {l : Launch} : conOk (MetP l 2 yX12_ship cX12_ship 8 (some .int) 0 0) C_X12_ship := by
  intro τ hΦ as h ha hh
  refine m_X12_ship (Jc τ T_X12_ship_56) (by rw [all2_len ha]; exact Nat.le_of_ble_eq_true rfl) ?_ ?_
  · exact run0 (τ := τ) (P := P_X12_ship) (CE := [T_X12_ship_56]) (CS := [C_X12_sumOf, C_X12_size]) (Ms := [MetP l 1 yX12_sumOf cX12_sumOf 5 (some .int) 0 0, MetP l 0 yX12_size cX12_size 1 (some .int) 0 0]) (GS := [(([topA, .inl (1, 2147483647), .inl (-2147483648, 10)], [], some (0, 1), []), 0, 1, 10), (([topA, .inl (0, 2147483647), .inl (-2147483648, 1)], [], some (0, 1), []), 0, 0, 1)]) (Mg := [MetP l 0 yX12_in cX12_in 3 (some .boolean) 0 0, MetP l 0 yX12_in cX12_in 3 (some .boolean) 0 0]) (T := ((C_X12_ship.1.map some ++ List.replicate (8 - 3) none, [], C_X12_ship.2.1) : Tg)) (sl := [(0, 1), (0, 2)]) (q := 68) (x := 0) (L := enL as 8) (st := []) (h := h) hΦ (fun j C e => match j, e with | 0, e => (by cases e; exact s_X12_sumOf) | 1, e => (by cases e; exact s_X12_size) | _ + 2, e => (by cases e)) (fun j g e => match j, e with | 0, e => (by cases e; exact gd_in (1) (10)) | 1, e => (by cases e; exact gd_in (0) (1)) | _ + 2, e => (by cases e)) (RS := C_X12_ship.2.2) (Rv := (fun r h' => ∃ q, q ∈ C_X12_ship.2.2 ∧ gR q.1 r ∧ all2 (gC ρ0 τ) q.2 h')) (GR := none) (M := (0, [])) (fun r h' q hq h1 h2 _ => ⟨q, hq, h1, h2⟩) ⟨door ha, trivial, hh⟩ (by decide +kernel)
  · intro μ L st h hJ
    exact runL (τ := τ) (P := P_X12_ship) (CE := [T_X12_ship_56]) (CS := [C_X12_sumOf, C_X12_size]) (Ms := [MetP l 1 yX12_sumOf cX12_sumOf 5 (some .int) 0 0, MetP l 0 yX12_size cX12_size 1 (some .int) 0 0]) (GS := [(([topA, .inl (1, 2147483647), .inl (-2147483648, 10)], [], some (0, 1), []), 0, 1, 10), (([topA, .inl (0, 2147483647), .inl (-2147483648, 1)], [], some (0, 1), []), 0, 0, 1)]) (Mg := [MetP l 0 yX12_in cX12_in 3 (some .boolean) 0 0, MetP l 0 yX12_in cX12_in 3 (some .boolean) 0 0]) (Q := T_X12_ship_56) (sl := [(0, 1), (0, 2), (0, 3), (0, 4), (0, 5), (0, 6)]) (q := 68) (x := 34) hΦ (fun j C e => match j, e with | 0, e => (by cases e; exact s_X12_sumOf) | 1, e => (by cases e; exact s_X12_size) | _ + 2, e => (by cases e)) (fun j g e => match j, e with | 0, e => (by cases e; exact gd_in (1) (10)) | 1, e => (by cases e; exact gd_in (0) (1)) | _ + 2, e => (by cases e)) (RS := C_X12_ship.2.2) (Rv := (fun r h' => ∃ q, q ∈ C_X12_ship.2.2 ∧ gR q.1 r ∧ all2 (gC ρ0 τ) q.2 h')) (fun r h' q hq h1 h2 => ⟨q, hq, h1, h2⟩) hJ (by decide +kernel)

def P_X12_stampIs : List Nd := [(2, [], [1, 0]), (1, [], [2, 1]), (31, [1, -1, -2, -3, 2, 3, -4, -5, -6, -7, -8, -9, -10, -11, -12, -13, -14, -15, -16, -17, -18, -19, -20, -21, -22, -23, -24, -25, -26, -27, -28], [4, 6, 0, 12, 2, 0]), (10, [], [4, 6, 0]), (0, [-1], [5]), (24, [], []), (1, [], [7, 2]), (12, [0], [8, 31]), (2, [], [9, 0]), (18, [], [10, 4, 11]), (1, [], [11, 1]), (20, [], [12, 0]), (24, [], []), (2, [], [14, 0]), (18, [], [15, 5, 11]), (1, [], [16, 1]), (20, [], [17, 0]), (24, [], []), (2, [], [19, 0]), (18, [], [20, 0, 11]), (0, [80], [21]), (1, [], [22, 1]), (6, [], [23, 0]), (20, [], [24, 0]), (24, [], []), (2, [], [26, 0]), (1, [], [27, 1]), (26, [-1, -2, -3, 2, 3, -4, -5, -6, -7, -8, -9, -10, -11, -12, -13, -14, -15, -16, -17, -18, -19, -20, -21, -22, -23, -24, -25, -26, -27, -28], [28, 0, 12, 2, 0, 1]), (24, [], []), (0, [-1], [30]), (24, [], []), (12, [1], [13, 32]), (12, [2], [18, 33]), (12, [3], [25, 34]), (13, [], [29])]
def C_X12_stampIs : Con := ([.inr (.inr (some (.inl 0))), .inl (-2147483648, 2147483647), .inl (-2147483648, 2147483647)], hc_96a5383a17, [(some (-2147483648, 2147483647), hc_96a5383a17)])
set_option maxRecDepth 100000 in
theorem s_X12_stampIs {l : Launch} : conOk (MetP l 2 yX12_stampIs cX12_stampIs 3 (some .int) 0 0) C_X12_stampIs := by
  intro τ hΦ as h ha hh
  refine m_X12_stampIs  (by rw [all2_len ha]; exact Nat.le_of_ble_eq_true rfl) ?_
  · exact run0 (τ := τ) (P := P_X12_stampIs) (CE := []) (CS := [C_X12_letterOf]) (Ms := [MetP l 0 yX12_letterOf cX12_letterOf 2 (some .int) 0 0]) (GS := [(G_X12_isStamp, 1, 0, 47)]) (Mg := [MetP l 1 yX12_isStamp cX12_isStamp 2 (some .boolean) 0 0]) (T := ((C_X12_stampIs.1.map some ++ List.replicate (3 - 3) none, [], C_X12_stampIs.2.1) : Tg)) (sl := [(0, 1), (0, 2)]) (q := 37) (x := 0) (L := enL as 3) (st := []) (h := h) hΦ (fun j C e => match j, e with | 0, e => (by cases e; exact s_X12_letterOf) | _ + 1, e => (by cases e)) (fun j g e => match j, e with | 0, e => (by cases e; exact gd_X12_isStamp) | _ + 1, e => (by cases e)) (RS := C_X12_stampIs.2.2) (Rv := (fun r h' => ∃ q, q ∈ C_X12_stampIs.2.2 ∧ gR q.1 r ∧ all2 (gC ρ0 τ) q.2 h')) (GR := none) (M := (0, [])) (fun r h' q hq h1 h2 _ => ⟨q, hq, h1, h2⟩) ⟨door ha, trivial, hh⟩ (by decide +kernel)

def P_X12_walledSet : List Nd := [(0, [0], [1]), (3, [], [2, 1]), (0, [0], [3]), (3, [], [28, 2]), (1, [], [5, 2]), (0, [8], [6]), (11, [], [26, 7, 2]), (2, [], [8, 0]), (1, [], [9, 2]), (31, [-1, -2, -3, -4, -5, -6, -7, -8, -9, -10, -11, -12, -13, -14, -15, -16, -17, -18, -19, -20, -21, -22, -23, -24, -25, -26, -27, -28, -29, -30], [25, 11, 0, 12, 2, 0, 1]), (10, [], [25, 11, 0]), (2, [], [12, 0]), (18, [], [13, 0, 11]), (0, [24], [14]), (1, [], [15, 2]), (6, [], [16, 0]), (20, [], [17, 0]), (0, [1], [18]), (11, [], [19, 25, 0]), (1, [], [20, 1]), (0, [1], [21]), (1, [], [22, 2]), (6, [], [23, 6]), (6, [], [24, 4]), (3, [], [25, 1]), (5, [1], [28, 2]), (1, [], [27, 1]), (24, [], []), (27, [], [0])]
def C_X12_walledSet : Con := ([.inr (.inr (some (.inl 0)))], hc_348ac27518, [(some (-2147483648, 2147483647), hc_348ac27518)])
def T_X12_walledSet_4 : Tg × Me := (([some (.inr (.inr (some (.inl 0)))), some (.inl (-2147483648, 2147483647)), some (.inl (0, 8))], [], hc_348ac27518), (9, [(-1, 0, 2)]))
set_option maxRecDepth 100000 in
theorem s_X12_walledSet {l : Launch} : conOk (MetP l 2 yX12_walledSet cX12_walledSet 3 (some .int) 0 0) C_X12_walledSet := by
  intro τ hΦ as h ha hh
  refine m_X12_walledSet (Jc τ T_X12_walledSet_4) (by rw [all2_len ha]; exact Nat.le_of_ble_eq_true rfl) ?_ ?_
  · exact run0 (τ := τ) (P := P_X12_walledSet) (CE := [T_X12_walledSet_4]) (CS := []) (Ms := []) (GS := [(G_X12_isTold, 1, 0, 7)]) (Mg := [MetP l 1 yX12_isTold cX12_isTold 2 (some .boolean) 0 0]) (T := ((C_X12_walledSet.1.map some ++ List.replicate (3 - 1) none, [], C_X12_walledSet.2.1) : Tg)) (sl := []) (q := 31) (x := 0) (L := enL as 3) (st := []) (h := h) hΦ (fun j C e => match j, e with | _ + 0, e => (by cases e)) (fun j g e => match j, e with | 0, e => (by cases e; exact gd_X12_isTold) | _ + 1, e => (by cases e)) (RS := C_X12_walledSet.2.2) (Rv := (fun r h' => ∃ q, q ∈ C_X12_walledSet.2.2 ∧ gR q.1 r ∧ all2 (gC ρ0 τ) q.2 h')) (GR := none) (M := (0, [])) (fun r h' q hq h1 h2 _ => ⟨q, hq, h1, h2⟩) ⟨door ha, trivial, hh⟩ (by decide +kernel)
  · intro μ L st h hJ
    exact runL (τ := τ) (P := P_X12_walledSet) (CE := [T_X12_walledSet_4]) (CS := []) (Ms := []) (GS := [(G_X12_isTold, 1, 0, 7)]) (Mg := [MetP l 1 yX12_isTold cX12_isTold 2 (some .boolean) 0 0]) (Q := T_X12_walledSet_4) (sl := [(0, 1), (0, 2)]) (q := 31) (x := 4) hΦ (fun j C e => match j, e with | _ + 0, e => (by cases e)) (fun j g e => match j, e with | 0, e => (by cases e; exact gd_X12_isTold) | _ + 1, e => (by cases e)) (RS := C_X12_walledSet.2.2) (Rv := (fun r h' => ∃ q, q ∈ C_X12_walledSet.2.2 ∧ gR q.1 r ∧ all2 (gC ρ0 τ) q.2 h')) (fun r h' q hq h1 h2 => ⟨q, hq, h1, h2⟩) hJ (by decide +kernel)

