/** Terms 5 and the promises 27 to 36: each boundary a run of its own. */
public final class EdgesOfTracksTest {
    private static final String ROW = Script.ROW;

    /** A to D at a, bare and with empty purses. */
    private static final String FOUR = "person(0,0,0,0,0)=1; person(1,0,1,1,0)=2; person(2,0,2,2,0)=3; person(3,0,4,4,0)=4\n";

    private static final Script SCRIPT = new Script();

    private EdgesOfTracksTest() {
    }

    public static void main(String[] args) {
        track();
        seen();
        filled();
        firstFilled();
        sights();
        spy();
        shut();
        fractions();
        year();
        draws();
        images();
        imagesKeepAll();
        told();
        SCRIPT.end();
    }

    private static void track() {
        SCRIPT.play("27 track: nobody there", "track(6,6,2)=0; track(5,5,0)=0; track(5,5,2)=0; track(0,0,2)=0");
        SCRIPT.play("27 track: all four", FOUR + "track(6,6,2)=15; track(5,5,2)=15; track(5,5,0)=15; track(5,5,1)=0; leave(0)=3; track(6,6,2)=14; leave(3)=2; track(5,5,2)=6");
        SCRIPT.play("27 track: left and right are 0 to 6", FOUR + "track(-1,6,2)=OUTSIDE; track(7,6,2)=OUTSIDE; track(6,-1,2)=OUTSIDE; track(6,7,2)=OUTSIDE; track(2147483647,6,2)=OUTSIDE; track(6,-2147483648,2)=OUTSIDE; track(0,6,2)=0; track(6,0,2)=0; track(6,6,2)=15");
        SCRIPT.play("27 track: limps is 0 to 2", FOUR + "track(6,6,-1)=OUTSIDE; track(6,6,3)=OUTSIDE; track(6,6,2147483647)=OUTSIDE; track(6,6,0)=15; track(6,6,1)=0; track(6,6,2)=15");
        SCRIPT.play("27 track: SIZES 0 and 4, a left", FOUR + "shop(0,1,0)=0; stock(0,0,1)=0; stock(0,4,1)=0; day A+D+; done()=2; track(0,6,2)=1; track(4,6,2)=8; track(5,6,2)=6; track(0,5,2)=1; track(6,5,2)=15; track(6,0,2)=0; track(6,4,2)=0; track(3,6,2)=0; track(1,6,2)=0");
        SCRIPT.play("27 track: SIZES 0 and 4, a right", FOUR + "shop(0,2,0)=0; stock(0,0,1)=0; stock(0,4,1)=0; day A+D+; done()=2; track(6,0,2)=1; track(6,4,2)=8; track(6,5,2)=6; track(5,0,2)=1; track(5,6,2)=15; track(0,6,2)=0; track(4,6,2)=0");
        SCRIPT.play("27 track: none is to be seen: whatever there is", FOUR + "shop(0,1,0)=0; stock(0,0,1)=0; day A+; done()=1; track(6,6,2)=15; track(6,5,2)=15; track(6,6,1)=1; track(6,6,0)=14");
        SCRIPT.play("27 track: a bare foot is of any SIZE", FOUR + "track(5,6,2)=15; track(6,5,2)=15; track(5,5,2)=15");
        SCRIPT.play("27 track: it LIMPS, K or more apart, it does not, who knows", """
                person(0,0,1,3,0)=1; road(0,1,3,0)=0; shop(0,1,0)=0; shop(1,2,0)=0; stock(0,1,1)=0; stock(1,3,1)=0; day A+AbA+; done()=3
                track(1,3,1)=1; track(1,3,0)=0; track(1,3,2)=1; set(1,4)=3; track(1,3,1)=0; track(1,3,0)=1; track(1,3,2)=1; track(3,1,2)=0; track(5,3,2)=0; track(1,5,2)=0
                """);
        SCRIPT.play("27 track: its own SIZE on each side", "person(0,0,1,3,0)=1; shop(0,1,0)=0; stock(0,1,1)=0; stock(0,3,1)=0; day A+; done()=1; track(1,5,1)=1; track(3,5,1)=0; shop(0,2,0)=1; day A+; done()=1; track(1,3,0)=1; track(3,1,0)=0; track(1,1,0)=0; track(3,3,0)=0");
    }

    private static void seen() {
        SCRIPT.play("28 seen: PEOPLE 0 to 3, there or not", "seen(-1,0)=UNKNOWN; seen(4,0)=UNKNOWN; seen(2147483647,0)=UNKNOWN; told(5)=0; seen(0,0)=1; seen(3,0)=2; person(3,0,0,0,0)=1; seen(3,0)=3");
        SCRIPT.play("28 seen: the TOWN", "seen(0,-1)=UNKNOWN; seen(0,4)=UNKNOWN; seen(0,-2147483648)=UNKNOWN; told(5)=0; seen(0,0)=1; seen(0,3)=2");
        SCRIPT.play("28 seen: 6 at most", "seen(0,0)=1; seen(1,1)=2; seen(2,2)=3; seen(3,3)=4; seen(0,0)=5; told(5)=5; seen(0,1)=6; seen(0,0)=FULL; seen(3,3)=FULL; told(5)=6; forget()=6; seen(0,0)=1");
        SCRIPT.play("28 seen: UNKNOWN goes before FULL", "seen(0,0)=1; seen(0,0)=2; seen(0,0)=3; seen(0,0)=4; seen(0,0)=5; seen(0,0)=6; seen(4,0)=UNKNOWN; seen(0,4)=UNKNOWN; seen(-1,-1)=UNKNOWN; seen(0,0)=FULL");
        SCRIPT.play("28 seen: refused as FULL, the SIGHT does not count", FOUR + "seen(0,0)=1; seen(0,0)=2; seen(0,0)=3; seen(0,0)=4; seen(0,0)=5; seen(0,0)=6; filled(-1)=1; seen(0,1)=FULL; filled(-1)=1");
        SCRIPT.play("28 seen: refused as UNKNOWN, the SIGHT does not count", FOUR + "seen(4,1)=UNKNOWN; seen(0,4)=UNKNOWN; filled(-1)=1; told(5)=0");
        SCRIPT.play("29 forget: no SIGHTS", "forget()=0; forget()=0; told(5)=0");
        SCRIPT.play("29 forget: how many there were; then there are none", FOUR + "seen(0,1)=1; filled(-1)=0; forget()=1; told(5)=0; filled(-1)=1; forget()=0; seen(1,0)=1; filled(-1)=1");
        SCRIPT.play("29 forget: SIGHTS alone go", ROW + "seen(0,0)=1; day Ab; forget()=1; told(0)=2; told(2)=1; told(111)=2; told(202)=1");
    }

    private static void filled() {
        SCRIPT.play("30 filled: an empty PAD, nobody there: one way", "filled(-1)=1; filled(0)=NONE; filled(1)=NONE; filled(-2)=NONE");
        SCRIPT.play("30 filled: without ?, one way or none", ROW + "day Ab; filled(-1)=1; filled(0)=NONE; day Ad; filled(-1)=0; filled(0)=NONE; day Bb; filled(-1)=0");
        SCRIPT.play("30 filled: nobody there: no way", "day ?-; filled(-1)=0; filled(0)=NONE; day ?-?-?-; filled(-1)=0; filled(2)=NONE");
        SCRIPT.play("30 filled: 3 of ?, all four there: 64 ways", FOUR + "day ?-; filled(-1)=4; filled(0)=0; filled(1)=NONE; day ?-?-; filled(-1)=16; filled(1)=0; filled(2)=NONE; day ?-?-?-; filled(-1)=64; filled(0)=0; filled(1)=0; filled(2)=0; filled(3)=NONE; day ?-?-?-?-; filled(-1)=NO");
        SCRIPT.play("30 filled: NO, there is a FAULT, whatever i", "day A; filled(-1)=NO; filled(0)=NO; filled(-2)=NO; filled(99)=NO; day ?e; filled(-1)=NO; towns(5)=4; filled(-1)=0");
        SCRIPT.play("30 filled: NONE, there is no i-th", FOUR + "day ?-?-; filled(-2)=NONE; filled(2)=NONE; filled(3)=NONE; filled(2147483647)=NONE; filled(-2147483648)=NONE; filled(1)=0");
        SCRIPT.play("30 filled: who is told stays who it is", ROW + "person(1,1,2,2,20)=2; day ?bA+; filled(-1)=1; filled(0)=0; day Ab?+; filled(-1)=2; filled(0)=0; day AbA+?+; filled(-1)=0; stock(1,2,2)=1; filled(-1)=1; filled(0)=1; filled(1)=NONE; day A-?b; filled(-1)=1; filled(0)=0");
        SCRIPT.play("30 filled: all STEPS can be, the last one too", ROW + "person(3,0,2,2,20)=2; day ?bD+; filled(-1)=1; filled(0)=3; day ?b?+D+; filled(-1)=0; day " + "AbAa".repeat(14) + "?b?+; filled(-1)=2; filled(0)=0; filled(1)=0; filled(2)=NONE");
        SCRIPT.play("30 filled: nothing is DONE by it", ROW + "day ?bA+; filled(-1)=1; state(0,0)=0; state(0,2)=0; told(202)=1; told(0)=4; trodden(0,1,2)=0; judge(0)=STATE");
    }

    private static void firstFilled() {
        SCRIPT.play("30 filled: the first by letters, of who is there", "person(2,0,0,0,0)=1; person(3,0,0,0,0)=2; day ?-?-?-; filled(-1)=8; filled(0)=2; filled(1)=2; filled(2)=2; leave(2)=1; filled(-1)=1; filled(0)=3; filled(1)=3; filled(2)=3");
        SCRIPT.play("30 filled: the first ? counts most", FOUR + "road(0,1,1,0)=0; day ?b?b?a; seen(3,1)=1; filled(-1)=6; filled(0)=0; filled(1)=3; filled(2)=0; seen(0,1)=2; filled(-1)=0; forget()=2; day ?b?b; seen(3,1)=1; seen(1,1)=2; filled(-1)=2; filled(0)=1; filled(1)=3");
        SCRIPT.play("30 filled: the last by letters may be the first one", FOUR + "road(0,1,1,0)=0; day ?b?a?b; seen(3,1)=1; filled(-1)=4; filled(0)=0; filled(1)=0; filled(2)=3; seen(0,0)=2; seen(1,0)=3; seen(2,0)=4; day ?b?a?b; filled(-1)=4; day ?b; filled(-1)=1; filled(0)=3");
    }

    private static void sights() {
        SCRIPT.play("30 filled: SIGHTS hold behind the DAY, not before", ROW + "seen(0,0)=1; filled(-1)=1; day Ab; filled(-1)=0; day AbAa; filled(-1)=1; forget()=1; seen(0,1)=1; filled(-1)=0; day Ab; filled(-1)=1");
        SCRIPT.play("30 filled: all of 6 SIGHTS, the last one too", FOUR + "seen(0,0)=1; seen(1,0)=2; seen(2,0)=3; seen(3,0)=4; seen(3,0)=5; filled(-1)=1; seen(3,1)=6; filled(-1)=0; forget()=6; filled(-1)=1");
        SCRIPT.play("30 filled: two SIGHTS of one PERSON in two TOWNS never hold", FOUR + "seen(0,0)=1; filled(-1)=1; seen(0,1)=2; filled(-1)=0; day ?-; filled(-1)=0; filled(0)=NONE");
        SCRIPT.play("30 filled: a SIGHT of who is not there does not hold", "seen(0,0)=1; filled(-1)=0; person(0,0,0,0,0)=1; filled(-1)=1; leave(0)=0; filled(-1)=0; told(5)=1");
    }

    private static void spy() {
        SCRIPT.play("31 spy: nobody there", "spy(0)=0; spy(1)=0");
        SCRIPT.play("31 spy: the least and the greatest SIZES", "person(0,0,0,0,0)=1; spy(0)=0; spy(1)=1; person(0,0,4,4,0)=1; spy(0)=44; spy(1)=1; person(0,0,0,4,0)=1; spy(0)=4; person(0,0,4,0,0)=1; spy(0)=40");
        SCRIPT.play("31 spy: all four alike", "person(0,0,4,4,0)=1; person(1,0,4,4,0)=2; person(2,0,4,4,0)=3; person(3,0,4,4,0)=4; spy(0)=44; spy(1)=4; person(3,0,4,3,0)=4; spy(0)=44; spy(1)=3");
        SCRIPT.play("31 spy: of several the least", FOUR + "spy(0)=0; spy(1)=1; leave(0)=3; spy(0)=11; person(0,0,4,4,0)=4; spy(0)=44; spy(1)=2; person(1,0,2,2,0)=4; spy(0)=22; spy(1)=2");
        SCRIPT.play("31 spy: both SIZES together, not each", "person(0,0,1,2,0)=1; person(1,0,2,1,0)=2; spy(0)=12; spy(1)=1; person(2,0,2,1,0)=3; spy(0)=21; spy(1)=2");
        SCRIPT.play("31 spy: what is 0 or 1", "spy(-1)=OUTSIDE; spy(2)=OUTSIDE; spy(2147483647)=OUTSIDE; spy(-2147483648)=OUTSIDE");
    }

    private static void shut() {
        SCRIPT.play("32 shut: t is 0 to 10", ROW + "shut(0,-1,0)=LOST OUTSIDE; shut(0,11,0)=LOST OUTSIDE; shut(0,2147483647,0)=LOST OUTSIDE; shut(0,-2147483648,1)=LOST OUTSIDE; shut(0,0,0)=1; shut(0,0,1)=1; shut(0,10,0)=0; shut(0,10,1)=1");
        SCRIPT.play("32 shut: part is 0 or 1", ROW + "shut(0,5,-1)=LOST OUTSIDE; shut(0,5,2)=LOST OUTSIDE; shut(0,5,2147483647)=LOST OUTSIDE; shut(0,5,0)=1; shut(0,5,1)=4");
        SCRIPT.play("32 shut: who is not there; UNKNOWN goes before OUTSIDE", ROW + "shut(1,0,0)=LOST UNKNOWN; shut(-1,0,0)=LOST UNKNOWN; shut(4,0,0)=LOST UNKNOWN; shut(1,11,0)=LOST UNKNOWN; shut(1,0,2)=LOST UNKNOWN; shut(0,11,2)=LOST OUTSIDE");
        SCRIPT.play("32 shut: 1 and 9 tenths", ROW + "shut(0,1,0)=81; shut(0,1,1)=100; shut(0,9,0)=1; shut(0,9,1)=100");
        SCRIPT.play("32 shut: no SHOPS: it can not be", "person(0,0,0,0,99)=1; shut(0,0,0)=0; shut(0,0,1)=1; shut(0,10,0)=0; shut(0,10,1)=1");
        SCRIPT.play("32 shut: shod already: it can, if it can go HOME", ROW + "day AbA+AcA+; done()=4; shut(0,10,0)=1; shut(0,10,1)=1; shut(0,0,0)=1; road(0,1,0,0)=2; shut(0,0,0)=0; shut(0,0,1)=1");
        SCRIPT.play("32 shut: one shoe is wanted: one SHOP", ROW + "day AbA+; done()=2; shut(0,3,0)=7; shut(0,3,1)=10; shut(0,5,1)=2; shut(0,10,0)=0; shut(0,2,0)=4; shut(0,2,1)=5");
        SCRIPT.play("32 shut: what a PURSE can not pay is as good as shut", ROW + "person(0,0,2,2,8)=1; shut(0,0,0)=0; shut(0,0,1)=1; person(0,0,2,2,9)=1; shut(0,0,0)=1");
        SCRIPT.play("32 shut: no SHOP is shut by it", ROW + "shut(0,10,0)=0; told(11)=1; told(12)=2; shod(0,0)=19; shod(0,2)=1");
    }

    private static void fractions() {
        SCRIPT.play("32 shut: six SHOPS, three for each side", """
                towns(6)=4; shop(0,1,0)=0; shop(1,1,0)=0; shop(2,1,0)=0; shop(3,2,0)=0; shop(4,2,0)=0; shop(5,2,0)=0; person(0,0,0,0,0)=1
                stock(0,0,1)=0; stock(1,0,1)=0; stock(2,0,1)=0; stock(3,0,1)=0; stock(4,0,1)=0; stock(5,0,1)=0
                road(0,1,1,0)=0; road(1,2,1,0)=0; road(2,3,1,0)=0; road(3,4,1,0)=0; road(4,5,1,0)=0
                shut(0,3,0)=946729; shut(0,3,1)=1000000; shut(0,5,0)=49; shut(0,5,1)=64; shut(0,0,0)=1; shut(0,0,1)=1; shut(0,10,0)=0; shut(0,10,1)=1
                """);
        SCRIPT.play("32 shut: in lowest terms: SHOPS that are of no use count for nothing", ROW + "shop(0,1,20)=0; shop(3,2,1)=0; shut(0,3,0)=49; shut(0,3,1)=100; shut(0,5,0)=1; shut(0,5,1)=4; shut(0,4,0)=9; shut(0,4,1)=25");
        SCRIPT.play("32 shut: in lowest terms, by 2 alone and by 5 alone", ROW + "day AbA+; done()=2; shop(1,0,4)=1; shut(0,2,0)=4; shut(0,2,1)=5; shut(0,8,0)=1; shut(0,8,1)=5; shut(0,5,0)=1; shut(0,5,1)=2; shut(0,1,0)=9; shut(0,1,1)=10");
        SCRIPT.play("32 shut: either of two for one side", ROW + "shop(0,1,4)=0; stock(0,2,1)=0; shut(0,5,0)=3; shut(0,5,1)=8; shut(0,1,0)=891; shut(0,1,1)=1000; stock(0,2,0)=1; shut(0,1,0)=81; shut(0,1,1)=100");
    }

    private static void year() {
        SCRIPT.play("33 year: seeds 0 to 9999", ROW + "year(-1,1,0)=OUTSIDE; year(10000,1,0)=OUTSIDE; year(2147483647,1,0)=OUTSIDE; year(-2147483648,1,0)=OUTSIDE; year(0,1,0)=0; year(9999,1,0)=2; year(9999,1,1)=1; year(9999,1,2)=1");
        SCRIPT.play("33 year: turns 1 to 99", "towns(2)=4; road(0,1,1,0)=0; person(0,0,0,0,0)=1; year(72,0,0)=OUTSIDE; year(72,100,0)=OUTSIDE; year(72,-1,0)=OUTSIDE; year(72,2147483647,0)=OUTSIDE; year(72,98,0)=6; year(72,99,0)=7; year(14,1,0)=1");
        SCRIPT.play("33 year: what is 0 to 2", ROW + "year(0,1,-1)=OUTSIDE; year(0,1,3)=OUTSIDE; year(0,1,2147483647)=OUTSIDE; year(0,1,0)=0; year(0,1,2)=0");
        SCRIPT.play("33 year: nobody there", "road(0,1,1,0)=0; year(72,99,0)=0; year(72,99,1)=0; year(72,99,2)=0");
        SCRIPT.play("33 year: nothing is DONE in fact", ROW + "day Ab; year(9999,1,0)=2; year(9999,1,1)=1; state(0,0)=0; state(0,1)=20; state(0,2)=0; state(0,6)=0; told(202)=1; told(0)=2; trodden(0,1,2)=0; year(9999,1,0)=2; behind(0,0)=1");
        SCRIPT.play("33 year: from all as it is: who LIMPS before", ROW + "day AbA+; done()=2; year(0,1,2)=1; set(1,9)=3; year(0,1,2)=1; day A-; done()=1; year(0,1,2)=0");
    }

    private static void draws() {
        SCRIPT.play("33 year: left over by 65537: 872 is 65474, C to a; 873 is 12, A to d", "road(0,3,5,0)=0; road(0,1,7,0)=0; person(0,0,0,0,0)=1; year(873,1,0)=5; year(872,1,0)=0; person(2,1,0,0,0)=2; year(872,1,0)=7; year(873,1,0)=5");
        SCRIPT.play("33 year: cut: 5242 is 2, C to a", "road(0,1,3,0)=0; person(2,1,0,0,0)=1; year(5242,1,0)=3; leave(2)=0; person(3,1,0,0,0)=1; year(5242,1,0)=0; leave(3)=0; person(1,1,0,0,0)=1; year(5242,1,0)=0");
        SCRIPT.play("33 year: left over by n: 14 is 1124, A to b of 4, c of 3, f of 6", """
                person(0,0,0,0,0)=1; road(0,1,1,0)=0; road(0,2,2,0)=0; year(14,1,0)=1; towns(3)=4; person(0,0,0,0,0)=1; road(0,1,1,0)=0; road(0,2,2,0)=0; year(14,1,0)=2
                towns(6)=3; person(0,0,0,0,0)=1; road(0,1,1,0)=0; road(0,2,2,0)=0; road(0,5,9,0)=0; year(14,1,0)=9; towns(5)=6; person(0,0,0,0,0)=1; road(0,1,4,0)=0; year(14,1,0)=4
                """);
        SCRIPT.play("33 year: it walks if that can be: the RULE, to where it is", "person(0,0,0,0,0)=1; road(0,1,1,1)=0; year(14,1,0)=0; road(0,1,1,2)=1; year(14,1,0)=1; person(0,1,0,0,0)=1; year(14,1,0)=0");
        SCRIPT.play("33 year: then it buys there, if that can be", "person(0,0,0,0,5)=1; road(0,1,1,0)=0; shop(1,1,5)=0; stock(1,0,1)=0; year(14,1,1)=1; year(14,1,2)=1; shop(1,1,6)=1; year(14,1,1)=0; year(14,1,2)=0; shop(1,1,5)=1; stock(1,0,0)=1; year(14,1,1)=0");
        SCRIPT.play("33 year: it buys where it is, if it could not walk", "person(0,0,0,0,5)=1; shop(0,2,5)=0; shop(1,1,0)=0; stock(0,0,1)=0; stock(1,0,1)=0; year(14,1,1)=1; year(14,1,0)=0; year(14,1,2)=1; road(0,1,1,0)=0; stock(1,0,0)=1; year(14,1,0)=1; year(14,1,1)=0");
        SCRIPT.play("33 year: who is not there does nothing", "road(0,1,1,0)=0; shop(1,1,0)=0; stock(1,0,9)=0; shop(0,1,0)=0; stock(0,0,9)=0; year(14,99,0)=0; year(14,99,1)=0; person(1,2,0,0,0)=1; year(14,1,1)=0; year(14,1,2)=0");
        SCRIPT.play("33 year: who has bought the other shoe LIMPS no more, K or more apart", "person(0,0,0,0,0)=1; shop(0,1,0)=0; shop(1,2,0)=0; stock(0,0,1)=0; stock(1,0,1)=0; road(0,1,3,0)=0; day A+; done()=1; year(0,1,2)=1; year(14,1,0)=3; year(14,1,1)=1; year(14,1,2)=1; set(1,4)=3; year(14,1,2)=0; year(14,1,1)=1");
        SCRIPT.play("33 year: how many LIMP then, all four", FOUR + "shop(0,1,0)=0; stock(0,0,1)=0; stock(0,1,1)=0; stock(0,2,1)=0; stock(0,4,1)=0; year(0,1,2)=1; year(0,99,1)=4; year(0,99,2)=4; leave(3)=3; year(0,99,2)=3");
    }

    private static void images() {
        SCRIPT.play("34 image: 0 and 1", "image(-1)=OUTSIDE; image(2)=OUTSIDE; image(2147483647)=OUTSIDE; image(-2147483648)=OUTSIDE; restore(0)=STATE; restore(1)=STATE; image(0)=1; restore(0)=1; restore(1)=STATE; image(1)=1; restore(1)=1");
        SCRIPT.play("35 restore: 0 and 1", "image(0)=1; image(1)=1; restore(-1)=OUTSIDE; restore(2)=OUTSIDE; restore(2147483647)=OUTSIDE; restore(-2147483648)=OUTSIDE; restore(0)=1; restore(1)=1");
        SCRIPT.play("35 restore: it was not kept; OUTSIDE goes before STATE", ROW + "restore(0)=STATE; restore(1)=STATE; restore(2)=OUTSIDE; told(2)=1; told(111)=2; image(1)=1; restore(0)=STATE; leave(0)=0; restore(0)=STATE; told(2)=0; restore(1)=1; told(2)=1");
        SCRIPT.play("34 image: the PAD is not kept", ROW + "day Ab; image(0)=1; wipe()=2; restore(0)=1; told(0)=0; say(65)=1; restore(0)=1; told(0)=1; fault()=1; day AbA+; restore(0)=1; told(0)=4; done()=2; restore(0)=1; told(0)=0");
        SCRIPT.play("34 image: kept anew, it is as it is now", "set(0,2)=1; image(0)=1; set(0,3)=2; image(0)=1; set(0,4)=3; restore(0)=1; told(3)=3");
        SCRIPT.play("34 image: each one for itself", "set(0,2)=1; image(0)=1; set(0,3)=2; image(1)=1; set(0,4)=3; restore(0)=1; told(3)=2; restore(1)=1; told(3)=3; restore(0)=1; told(3)=2");
        SCRIPT.play("35 restore: as often as one likes", ROW + "image(0)=1; day AbA+; done()=2; restore(0)=1; state(0,0)=0; day AbA+; done()=2; restore(0)=1; state(0,0)=0; state(0,1)=20; state(0,2)=0; told(202)=1");
        SCRIPT.play("34 image: of a new object", "image(0)=1; " + FOUR + "towns(6)=4; set(0,9)=1; set(1,9)=3; seen(0,0)=1; restore(0)=1; told(1)=4; told(2)=0; told(3)=1; told(4)=3; told(5)=0");
    }

    private static void imagesKeepAll() {
        SCRIPT.play("34 image: TOWNS", "towns(6)=4; image(0)=1; towns(2)=6; restore(0)=1; told(1)=6; far(5,5,0)=0; towns(2)=6; image(0)=1; towns(6)=2; restore(0)=1; told(1)=2; far(2,2,0)=UNKNOWN");
        SCRIPT.play("34 image: ROADS, the first and the last", "towns(6)=4; road(0,1,9,1)=0; road(4,5,8,2)=0; image(0)=1; road(0,1,1,2)=9; road(4,5,1,0)=8; restore(0)=1; told(111)=9; told(121)=1; told(515)=8; told(525)=2");
        SCRIPT.play("34 image: how they are TRODDEN", ROW + "day AbA+AcA+Ab; done()=5; image(0)=1; road(0,1,2,0)=2; road(1,2,3,0)=3; restore(0)=1; trodden(0,1,2)=4; trodden(1,2,0)=6; trodden(1,2,1)=3; trodden(1,2,2)=3; day Ac; done()=1; trodden(1,2,0)=9; restore(0)=1; trodden(1,2,0)=6");
        SCRIPT.play("34 image: SHOPS, the first and the last", "towns(6)=4; shop(0,1,20)=0; shop(5,2,7)=0; image(1)=1; shop(0,0,0)=1; shop(5,1,1)=2; restore(1)=1; told(10)=1; told(20)=20; told(15)=2; told(25)=7");
        SCRIPT.play("34 image: STOCKS, the first and the last", "towns(6)=4; stock(0,0,9)=0; stock(5,4,8)=0; image(1)=1; stock(0,0,1)=9; stock(5,4,1)=8; restore(1)=1; told(100)=9; told(604)=8");
        SCRIPT.play("34 image: PEOPLE, all that they are", ROW + """
                person(3,3,1,4,7)=2; day AbA+AcA+Ab; done()=5; image(0)=1; person(0,3,0,0,0)=2; leave(3)=1; person(1,0,0,0,0)=2; restore(0)=1; told(2)=9
                state(0,0)=1; state(0,1)=11; state(0,2)=3; state(0,3)=6; state(0,4)=3; state(0,5)=1; state(0,6)=8; state(3,0)=3; state(3,1)=7; spy(0)=14; track(2,2,1)=1; round(0,0,-1)=2; round(3,0,-1)=0
                """);
        SCRIPT.play("34 image: TOLL and K", "set(0,0)=1; set(1,9)=3; image(0)=1; set(0,9)=0; set(1,1)=9; restore(0)=1; told(3)=0; told(4)=9");
        SCRIPT.play("34 image: SIGHTS, the last of 6 too", FOUR + "seen(0,0)=1; seen(1,0)=2; seen(2,0)=3; seen(2,0)=4; seen(0,0)=5; seen(3,1)=6; image(0)=1; forget()=6; seen(0,0)=1; filled(-1)=1; restore(0)=1; told(5)=6; filled(-1)=0; road(0,1,1,0)=0; day Db; filled(-1)=1; day Cb; filled(-1)=0");
    }

    private static void told() {
        SCRIPT.play("36 told: 0 to 5", "told(-1)=OUTSIDE; told(0)=0; told(1)=4; told(2)=0; told(3)=1; told(4)=3; told(5)=0; told(6)=OUTSIDE; told(7)=OUTSIDE; told(8)=OUTSIDE; told(9)=OUTSIDE; told(2147483647)=OUTSIDE; told(-2147483648)=OUTSIDE");
        SCRIPT.play("36 told: PEOPLE as bits", "person(3,0,0,0,0)=1; told(2)=8; person(0,0,0,0,0)=2; told(2)=9; person(1,0,0,0,0)=3; person(2,0,0,0,0)=4; told(2)=15");
        SCRIPT.play("36 told: 10 on sides of SHOPS", "shop(0,1,0)=0; shop(3,2,0)=0; told(9)=OUTSIDE; told(10)=1; told(13)=2; told(14)=OUTSIDE; told(15)=OUTSIDE; told(16)=OUTSIDE; told(19)=OUTSIDE");
        SCRIPT.play("36 told: 20 on PRICES", "shop(0,0,20)=0; shop(3,0,19)=0; told(19)=OUTSIDE; told(20)=20; told(23)=19; told(24)=OUTSIDE; told(25)=OUTSIDE; told(30)=OUTSIDE; told(99)=OUTSIDE; told(90)=OUTSIDE");
        SCRIPT.play("36 told: 100 times (1 and a TOWN) and a SIZE", "stock(0,0,1)=0; stock(0,4,2)=0; stock(3,0,3)=0; stock(3,4,4)=0; told(99)=OUTSIDE; told(100)=1; told(104)=2; told(105)=OUTSIDE; told(109)=OUTSIDE; told(399)=OUTSIDE; told(400)=3; told(404)=4; told(405)=OUTSIDE; told(500)=OUTSIDE; told(504)=OUTSIDE");
        SCRIPT.play("36 told: and 10 and another TOWN: MILES", "road(0,1,5,0)=0; road(3,2,6,0)=0; told(110)=OUTSIDE; told(111)=5; told(112)=0; told(113)=0; told(114)=OUTSIDE; told(115)=OUTSIDE; told(119)=OUTSIDE; told(210)=5; told(211)=OUTSIDE; told(410)=0; told(412)=6; told(413)=OUTSIDE; told(414)=OUTSIDE; told(510)=OUTSIDE");
        SCRIPT.play("36 told: and 20 and it: the RULE", "road(0,1,5,1)=0; road(3,2,6,2)=0; told(119)=OUTSIDE; told(120)=OUTSIDE; told(121)=1; told(122)=0; told(124)=OUTSIDE; told(125)=OUTSIDE; told(130)=OUTSIDE; told(199)=OUTSIDE; told(220)=1; told(422)=2; told(423)=OUTSIDE; told(424)=OUTSIDE; told(520)=OUTSIDE");
        SCRIPT.play("36 told: of two TOWNS", "towns(2)=4; told(11)=0; told(12)=OUTSIDE; told(21)=0; told(22)=OUTSIDE; told(204)=0; told(300)=OUTSIDE; told(111)=0; told(112)=OUTSIDE; told(121)=0; told(122)=OUTSIDE; told(210)=0; told(220)=0");
        SCRIPT.play("36 told: of six TOWNS", "towns(6)=4; told(15)=0; told(16)=OUTSIDE; told(25)=0; told(26)=OUTSIDE; told(604)=0; told(605)=OUTSIDE; told(614)=0; told(615)=OUTSIDE; told(616)=OUTSIDE; told(624)=0; told(625)=OUTSIDE; told(700)=OUTSIDE; told(715)=OUTSIDE; told(115)=0; told(116)=OUTSIDE; told(125)=0; told(126)=OUTSIDE");
    }
}
