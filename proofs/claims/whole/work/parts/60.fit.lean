theorem m_fT (l : Launch) (D : va_G) : ∀ d, m_CT l D d
  | 0 => by
    intro sz mm fa cn cF cI fr ff cN ct tt ad ca cap x v2 v3 v4 v5 yy be cy cpy y w2 w3 w4 w5 wt t0 hx0 hwx hy0 hwy hct hwt ht0 hd0
    omega
  | d + 1 => by
    intro sz mm fa cn cF cI fr ff cN ct tt ad ca cap x v2 v3 v4 v5 yy be cy cpy y w2 w3 w4 w5 wt t0 hx0 hwx hy0 hwy hct hwt ht0 hd0
    rw [show 12 + 2 * (d + 1) = 14 + 2 * d by omega, show 240 + 120 * (d + 1) = 360 + 120 * d by omega]
    refine c_M_fitTermS l D sz d mm fa cn cF cI fr ff cN ct tt ad ca cap x v2 v3 v4 v5 yy be cy cpy y w2 w3 w4 w5 wt t0 ?_ hx0 hwx hy0 hwy hct hwt ht0 hd0
    intro sz mm fa cn cF cI fr ff cN ct tt ad ca cap x v2 v3 v4 v5 yy be cy cpy y w2 w3 w4 w5 li te fs hx0 hwx hy0 hwy hct hli hte hfs hd0
    exact c_M_fitItemsS l D sz d mm fa cn cF cI fr ff cN ct tt ad ca cap x v2 v3 v4 v5 yy be cy cpy y w2 w3 w4 w5 li te fs (m_fT l D d) hx0 hwx hy0 hwy hct hli hte hfs hd0
theorem m_fI (l : Launch) (D : va_G) (d : Nat) : m_CI l D d := by
  intro sz mm fa cn cF cI fr ff cN ct tt ad ca cap x v2 v3 v4 v5 yy be cy cpy y w2 w3 w4 w5 li te fs hx0 hwx hy0 hwy hct hli hte hfs hd0
  exact c_M_fitItemsS l D sz d mm fa cn cF cI fr ff cN ct tt ad ca cap x v2 v3 v4 v5 yy be cy cpy y w2 w3 w4 w5 li te fs (m_fT l D d) hx0 hwx hy0 hwy hct hli hte hfs hd0
