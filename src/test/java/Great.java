/** PROGRAMS whose numbers come to just 10^18; all of them are SHOWN from 0, 0 on. */
final class Great {
    private static final String FIVE_HUNDRED = "99*i+99*i+99*i+99*i+99*i+5*i";

    private Great() {
    }

    /** DEGREE 3. PROGRAM 4: 10^15 a steps of w; 5: as many and b; 6: as many and a; 7: none. */
    static CostFormulas times10To15() {
        return Check.shown(
            "for i=99*a+a..99*a+a{for j=" + FIVE_HUNDRED + ".." + FIVE_HUNDRED + "{" + "w2*j;".repeat(25) + "}}",
            "run0(99*a+a,b);".repeat(10), "run1(99*a+a,b);".repeat(10), "run2(10*a,b);".repeat(10),
            "run3(a,b);".repeat(4), "run4(a,b);w b;", "run4(a,b);w a;", "");
    }

    /** DEGREE 2. PROGRAM 5: 10^12 a b steps of w; 6: as many and a b; 7: none. */
    static CostFormulas times10To12() {
        return Check.shown("w99*a+a;".repeat(20), "run0(99*a+a,b);".repeat(10), "run1(99*a+a,b);".repeat(10),
            "run2(10*a,b);".repeat(10), "run3(a,b);".repeat(5), "for i=1..a{run4(b,b);}", "for i=1..a{run4(b,b);w b;}",
            "");
    }

    /** DEGREE 2. PROGRAM 3: 5 * 10^14 a steps of w; 4: as many as that with an a of 1; 5: those, and an x; 6: none. */
    static CostFormulas halfOf10To15() {
        String line = FIVE_HUNDRED.replace('i', 'a');
        return Check.shown("for i=" + line + ".." + line + "{" + "w99*i+99*i+2*i;".repeat(10) + "}",
            "run0(99*a+a,b);".repeat(10), "run1(99*a+a,b);".repeat(10), "run2(50*a,b);".repeat(10), "run3(1,b);",
            "run3(1,b);x;", "");
    }
}
