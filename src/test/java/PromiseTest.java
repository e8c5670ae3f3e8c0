/** For each promise of the document: ordinary calls, the edges it names, each refusal in order. */
public final class PromiseTest {
    private static final String ROW = Script.ROW;

    private static final Script SCRIPT = new Script();

    private PromiseTest() {
    }

    public static void main(String[] args) {
        towns();
        steps();
        days();
        wear();
        ways();
        shopping();
        rounds();
        roadsToClose();
        prices();
        tracks();
        fillings();
        chances();
        images();
        answers();
        SCRIPT.end();
    }

    private static void towns() {
        SCRIPT.play("1 a new object", """
                told(0)=0; told(1)=4; told(2)=0; told(3)=1; told(4)=3; told(5)=0
                told(10)=0; told(13)=0; told(20)=0; told(23)=0; told(100)=0; told(404)=0
                told(111)=0; told(121)=0; told(413)=OUTSIDE; fault()=NONE; restore(0)=STATE; restore(1)=STATE
                far(0,1,0)=NONE; far(0,1,1)=NONE; state(0,0)=UNKNOWN
                """);
        SCRIPT.play("2 towns", ROW + """
                set(0,7)=1; set(1,5)=3; seen(0,1)=1; road(0,1,2,2)=2; image(0)=1
                day Ad
                towns(1)=OUTSIDE; towns(7)=OUTSIDE; towns(-1)=OUTSIDE; told(1)=4; told(2)=1
                towns(2)=4; told(1)=2; told(2)=0; told(5)=0; told(11)=0; told(21)=0; told(102)=0
                told(111)=0; told(121)=0; told(12)=OUTSIDE
                person(0,1,2,2,20)=1; shop(1,1,1)=0; day A+; judge(1)=4; leave(0)=0; day Ad
                # what no word of the promise names stays: the pad, toll, K, images
                told(0)=2; told(3)=7; told(4)=5; fault()=1; restore(0)=1; told(1)=4; fault()=NONE
                towns(6)=4; far(5,5,0)=0; road(5,4,1,0)=0; road(6,4,1,0)=UNKNOWN
                person(0,5,0,0,0)=1; towns(6)=6; told(2)=0; person(0,4,0,0,0)=1; trodden(4,5,0)=STATE
                road(4,5,3,0)=0; trodden(4,5,2)=0
                """);
        SCRIPT.play("3 road", """
                road(0,1,9,2)=0; road(1,0,1,1)=9; told(111)=1; told(210)=1; told(121)=1; told(220)=1
                road(0,1,0,0)=1; told(111)=0; far(0,1,0)=NONE; road(0,1,4,0)=0
                road(0,0,1,0)=UNKNOWN; road(-1,0,1,0)=UNKNOWN; road(0,4,1,0)=UNKNOWN; road(4,4,1,0)=UNKNOWN
                road(0,0,10,3)=UNKNOWN; road(0,1,10,0)=OUTSIDE; road(0,1,-1,0)=OUTSIDE
                road(0,1,1,3)=OUTSIDE; road(0,1,1,-1)=OUTSIDE; told(111)=4; told(121)=0
                """);
        SCRIPT.play("4 shop", """
                shop(3,2,20)=0; shop(3,1,0)=2; told(13)=1; told(23)=0; shop(3,0,9)=1; told(13)=0; told(23)=9
                shop(4,0,0)=UNKNOWN; shop(-1,3,21)=UNKNOWN; shop(0,3,0)=OUTSIDE; shop(0,-1,0)=OUTSIDE
                shop(0,1,21)=OUTSIDE; shop(0,1,-1)=OUTSIDE; told(10)=0
                """);
        SCRIPT.play("5 stock", """
                stock(3,4,9)=0; stock(3,4,1)=9; told(404)=1; told(403)=0; shop(3,1,1)=0; told(404)=1
                stock(4,0,0)=UNKNOWN; stock(0,5,0)=UNKNOWN; stock(0,-1,10)=UNKNOWN; stock(-1,0,0)=UNKNOWN
                stock(0,0,10)=OUTSIDE; stock(0,0,-1)=OUTSIDE; told(100)=0
                """);
        SCRIPT.play("6 person, 7 leave", ROW + """
                person(3,1,0,4,99)=2; told(2)=9; day AbA+; done()=2; state(0,6)=2
                person(0,3,1,1,7)=2; state(0,0)=3; state(0,1)=7; state(0,2)=0; state(0,6)=0
                person(4,0,0,0,0)=UNKNOWN; person(-1,0,0,0,0)=UNKNOWN; person(1,4,0,0,0)=UNKNOWN
                person(1,-1,0,0,0)=UNKNOWN; person(1,0,5,0,0)=UNKNOWN; person(1,0,0,5,0)=UNKNOWN
                person(1,0,-1,0,0)=UNKNOWN; person(1,0,0,-1,100)=UNKNOWN
                person(1,0,0,0,100)=OUTSIDE; person(1,0,0,0,-1)=OUTSIDE; told(2)=9
                leave(1)=UNKNOWN; leave(4)=UNKNOWN; leave(-1)=UNKNOWN; leave(0)=1; leave(0)=UNKNOWN
                told(2)=8; state(0,0)=UNKNOWN; leave(3)=0; told(2)=0
                """);
        SCRIPT.play("8 set", """
                set(0,0)=1; set(0,9)=0; told(3)=9; set(0,10)=OUTSIDE; set(0,-1)=OUTSIDE; told(3)=9
                set(1,1)=3; set(1,9)=1; told(4)=9; set(1,0)=OUTSIDE; set(1,10)=OUTSIDE
                set(2,1)=OUTSIDE; set(-1,1)=OUTSIDE; told(4)=9
                """);
    }

    private static void steps() {
        SCRIPT.play("9 say, 10 wipe", """
                say(32)=OUTSIDE; say(127)=OUTSIDE; say(-1)=OUTSIDE; wipe()=0; say(33)=1; say(126)=2
                told(0)=2; wipe()=2; wipe()=0; told(0)=0
                day AaAaAaAaAaAaAaAaAaAaAaAaAaAaAaAaAaAaAaAaAaAaAaAaAaAaAaAaAaAa
                say(65)=FULL; say(32)=OUTSIDE; told(0)=60; fault()=NONE; wipe()=60
                """);
        SCRIPT.play("11 fault", """
                fault()=NONE; day A; fault()=1; day Aa; fault()=NONE; day Ad; fault()=NONE
                day Ae; fault()=1; towns(5)=4; fault()=NONE; towns(6)=5; day Af; fault()=NONE; day Ag; fault()=1
                day E; fault()=0; day a; fault()=0; day @a; fault()=0; day +; fault()=0; day AA; fault()=1
                day A?; fault()=1; day ??; fault()=1; day D-?+; fault()=NONE; day A*; fault()=1; day A,; fault()=1
                day A`; fault()=1; day ?-?-?-; fault()=NONE; day ?-?-?-?; fault()=6; day ?-?-?-A-; fault()=NONE
                day A-?-?-?-A-?-E; fault()=10; day A-B; fault()=3; day A-BzC; fault()=3
                """);
        SCRIPT.play("12 judge: the reasons", ROW + """
                day Bb; judge(0)=0; judge(1)=1; day B+; judge(1)=1; day B-; judge(1)=1
                day Aa; judge(1)=2; day Ac; judge(1)=2; day A+; judge(1)=4; day A-A-; judge(0)=NONE
                day AbA+A+; judge(0)=2; judge(1)=4        # the stock is gone before the shoe counts
                stock(1,2,2)=1; judge(0)=2; judge(1)=5
                shop(1,1,20)=1; judge(0)=2; judge(1)=5; shop(1,1,4)=1
                person(0,0,2,2,4)=1; day AbA+AcA+; judge(0)=3; judge(1)=6; person(0,0,2,2,9)=1; judge(0)=NONE
                judge(1)=NONE; person(0,0,2,2,3)=1; judge(0)=1; judge(1)=6
                stock(1,2,0)=2; judge(1)=4; stock(1,2,1)=0; person(0,0,3,2,9)=1; judge(1)=4
                judge(2)=OUTSIDE; judge(-1)=OUTSIDE
                day A; judge(2)=OUTSIDE; judge(0)=NO; day ?a; judge(0)=STATE; judge(1)=STATE; day ?aA; judge(1)=NO
                """);
        SCRIPT.play("12 judge: rules of roads", ROW + """
                road(1,2,3,1)=3; day AbAc; judge(0)=1; judge(1)=3; day AbA+Ac; judge(0)=NONE
                road(1,2,3,2)=3; judge(0)=2; judge(1)=3; day AbA+A-Ac; judge(0)=NONE
                # after 3 miles in the left alone it limps with both shoes on, until K is 4
                road(1,2,3,1)=3; day AbA+AcA+Ab; judge(0)=NONE; set(1,4)=3; judge(0)=4; judge(1)=3
                road(1,2,0,1)=3; judge(0)=2; judge(1)=2
                """);
        SCRIPT.play("13 done", ROW + """
                done()=0; day AbA+; done()=2; told(0)=0; told(202)=0; state(0,0)=1; state(0,1)=16
                day AcAc; done()=NO; told(0)=4; state(0,0)=1; day Ac?; done()=NO; day Ac?-; done()=STATE
                day Bc?-; done()=STATE; day Bc; done()=NO; day A; done()=NO; done()=NO; told(0)=1
                """);
    }

    private static void days() {
        SCRIPT.play("14 state", ROW + """
                day AbA+AcA+Ab; done()=5
                state(0,0)=1; state(0,1)=11; state(0,2)=3; state(0,3)=6; state(0,4)=3; state(0,5)=1; state(0,6)=8
                set(1,4)=3; state(0,5)=0; day A-; done()=1; state(0,2)=0; state(0,3)=0; state(0,4)=0; state(0,6)=8
                stock(1,2,1)=0; day A+; done()=1; state(0,2)=1; state(0,5)=1; state(0,3)=0
                day A-AcA+; done()=3; state(0,2)=2
                state(1,0)=UNKNOWN; state(-1,9)=UNKNOWN; state(4,0)=UNKNOWN; state(0,7)=OUTSIDE; state(0,-1)=OUTSIDE
                """);
        SCRIPT.play("15 behind", ROW + """
                day AbA+AcA+; behind(0,0)=2; behind(0,1)=11; behind(0,2)=3; behind(0,3)=3; behind(0,4)=0
                behind(0,5)=1; behind(0,6)=5; state(0,0)=0; told(0)=8; told(202)=1; trodden(0,1,2)=0
                behind(1,7)=UNKNOWN; behind(0,7)=OUTSIDE; behind(0,-1)=OUTSIDE; day Ac; behind(0,0)=NO; behind(0,7)=OUTSIDE
                day A; behind(0,0)=NO; behind(1,0)=UNKNOWN; day ?c; behind(0,0)=STATE; day; behind(0,0)=0
                """);
        SCRIPT.play("16 trodden", ROW + """
                day AbA+AcAbA-Aa; done()=6; trodden(0,1,0)=0; trodden(0,1,1)=0; trodden(1,0,2)=8
                trodden(1,2,0)=6; trodden(2,1,1)=0; trodden(1,2,2)=6
                leave(0)=0; trodden(1,2,0)=6; image(1)=1; road(2,1,3,0)=3; trodden(1,2,0)=0; trodden(1,2,2)=0; trodden(0,1,2)=8
                restore(1)=1; trodden(1,2,0)=6; road(1,2,0,0)=3; trodden(1,2,0)=STATE; road(1,2,3,0)=0; trodden(1,2,0)=0
                stock(1,2,1)=0; person(0,2,2,2,99)=1; day A+AbA+Ac; done()=4; trodden(1,2,0)=3; trodden(1,2,1)=6; trodden(1,2,2)=3
                trodden(0,0,0)=UNKNOWN; trodden(4,0,3)=UNKNOWN; trodden(0,-1,0)=UNKNOWN
                trodden(0,3,3)=OUTSIDE; trodden(0,3,-1)=OUTSIDE; trodden(0,3,0)=STATE
                """);
    }

    private static void wear() {
        SCRIPT.play("17 givesOut", ROW + """
                stock(1,2,9)=1; person(1,1,2,2,99)=2
                day AbA+AcA+B+BcAbBb; givesOut(2,0)=2; givesOut(2,1)=0; givesOut(2,2)=0
                givesOut(3,0)=6; givesOut(3,1)=0; givesOut(5,0)=6; givesOut(6,0)=NONE; givesOut(6,1)=NONE; givesOut(6,2)=NONE
                givesOut(99,0)=NONE; done()=8
                # worn above D before: it gives out behind the next walk of who wears it, not by another step
                day B-A-; givesOut(1,0)=NONE; day B-BcAa; givesOut(1,0)=2; givesOut(1,1)=0; givesOut(1,2)=0
                day A-; done()=1; stock(2,2,9)=1; day AcA+Ab; givesOut(2,0)=2; givesOut(2,1)=0; givesOut(2,2)=1; givesOut(3,0)=NONE
                day AcA+AbA+Aa; givesOut(4,0)=4; givesOut(4,2)=1; givesOut(2,2)=1; givesOut(1,0)=2; day A+AcA+Ab; givesOut(5,2)=0
                givesOut(0,0)=OUTSIDE; givesOut(100,0)=OUTSIDE; givesOut(1,3)=OUTSIDE; givesOut(1,-1)=OUTSIDE
                day A; givesOut(0,0)=OUTSIDE; givesOut(1,0)=NO; day ?a; givesOut(1,0)=STATE; day Ad; givesOut(1,0)=NO
                """);
    }

    private static void ways() {
        SCRIPT.play("18 far", """
                road(0,1,9,0)=0; road(0,2,2,1)=0; road(2,1,2,1)=0; road(0,3,1,2)=0; road(3,1,5,2)=0
                far(0,1,1)=4; far(1,0,1)=4; far(0,1,0)=6; far(2,2,0)=0; far(2,0,0)=NONE; far(3,0,1)=NONE
                far(4,0,2)=UNKNOWN; far(0,-1,0)=UNKNOWN; far(0,1,2)=OUTSIDE; far(0,0,-1)=OUTSIDE
                """);
        SCRIPT.play("19 way", """
                towns(6)=4; person(2,0,0,0,50)=1
                road(0,5,4,0)=0; road(0,4,2,0)=0; road(4,5,2,0)=0; way(2,5,-1)=4; way(2,5,0)=0; way(2,5,1)=5; way(2,5,2)=NONE
                # of the fewest miles the fewest roads, of these the first by towns
                road(0,5,5,0)=4; road(0,3,3,0)=0; road(3,5,1,0)=0; way(2,5,-1)=4; way(2,5,1)=3; way(2,5,2)=5; way(2,5,3)=NONE
                road(0,1,1,0)=0; road(1,2,1,0)=0; road(2,5,2,0)=0; way(2,5,1)=3
                road(3,5,2,0)=1; road(4,5,3,0)=2; way(2,5,-1)=4; way(2,5,1)=1; way(2,5,2)=2; way(2,5,3)=5; way(2,5,4)=NONE
                way(2,5,-2)=NONE; way(2,5,2147483647)=NONE; way(2,0,-1)=0; way(2,0,0)=0; way(2,0,1)=NONE
                way(1,5,0)=UNKNOWN; way(4,5,0)=UNKNOWN; way(2,6,0)=UNKNOWN; way(2,-1,0)=UNKNOWN
                # as it is now: with one shoe it limps
                shop(0,1,1)=0; stock(0,0,1)=0; road(0,1,1,2)=1; day C+; done()=1; way(2,5,-1)=5; way(2,5,1)=5; way(2,5,2)=NONE
                road(0,3,3,2)=3; road(0,4,2,2)=2; road(0,5,5,2)=5; way(2,5,-1)=NONE; way(2,5,0)=NONE; way(2,0,0)=0
                """);
    }

    private static void shopping() {
        SCRIPT.play("20 shod", ROW + """
                shod(0,0)=19; shod(0,1)=10; shod(0,2)=1; shod(0,3)=2; set(0,9)=1; shod(0,0)=99; set(0,0)=9; shod(0,0)=9; set(0,1)=0
                person(0,0,2,2,9)=1; shod(0,0)=19; person(0,0,2,2,8)=1; shod(0,0)=NONE; shod(0,1)=NONE; shod(0,2)=NONE; shod(0,3)=NONE
                person(0,0,2,2,20)=1; stock(1,2,0)=1; shod(0,0)=NONE; stock(1,2,1)=0
                # from where it is, not from home: the left on the way, the right at home
                person(0,2,2,2,20)=1; day AbAa; done()=2; shod(0,0)=14; shod(0,2)=1; shod(0,3)=2; shod(0,1)=5
                # both at home already
                shop(3,1,0)=0; stock(3,2,9)=0; road(2,3,1,0)=0
                person(0,2,2,2,20)=1; shod(0,0)=7; shod(0,1)=2; shod(0,2)=2; shod(0,3)=3
                day A+; done()=1; shod(0,0)=2; shod(0,2)=3; shod(0,3)=NONE
                day AdA+; done()=2; shod(0,0)=1; shod(0,1)=1; shod(0,2)=NONE; shod(0,3)=NONE; day Ac; done()=1; shod(0,0)=0; shod(0,1)=0
                # each foot has its own size
                stock(3,1,1)=0; stock(2,4,1)=0; person(0,2,1,4,20)=1; shod(0,1)=2; stock(3,1,0)=1; shod(0,1)=NONE; stock(3,1,1)=0
                stock(2,4,0)=1; shod(0,1)=NONE; stock(2,4,1)=0; day A+AdA+; done()=3; told(304)=0; told(401)=0; track(1,4,2)=1; track(4,1,2)=0
                shod(1,4)=UNKNOWN; shod(-1,0)=UNKNOWN; shod(4,0)=UNKNOWN; shod(0,4)=OUTSIDE; shod(0,-1)=OUTSIDE
                """);
        SCRIPT.play("20 shod: of several the first by towns", """
                shop(1,2,3)=0; shop(2,1,3)=0; shop(3,2,3)=0; stock(1,0,1)=0; stock(2,0,1)=0; stock(3,0,1)=0
                road(0,1,1,0)=0; road(0,2,1,0)=0; road(0,3,1,0)=0; person(0,0,0,0,6)=1
                shod(0,0)=10; shod(0,2)=1; shod(0,3)=2; shop(1,2,4)=2; shod(0,0)=10; shod(0,2)=2; shod(0,3)=3
                person(0,0,0,0,99)=1; shod(0,0)=10; shod(0,2)=2; shod(0,3)=3; shop(3,2,4)=2; shod(0,2)=1; shod(0,3)=2; shod(0,0)=11
                """);
        SCRIPT.play("20 shod: limping as it then is", """
                shop(1,1,0)=0; shop(2,2,0)=0; stock(1,0,9)=0; stock(2,0,9)=0; person(0,0,0,0,0)=1
                # bare from a to b, one shoe from b to c, both from c to a
                road(0,1,2,2)=0; road(1,2,3,1)=0; road(0,2,4,1)=0; shod(0,0)=9; set(1,4)=3; shod(0,0)=NONE
                road(0,2,4,2)=4; shod(0,0)=9; set(1,3)=4; shod(0,0)=NONE; set(1,4)=3
                road(1,2,3,2)=3; shod(0,0)=NONE; road(1,2,3,0)=3; road(0,1,2,1)=2; shod(0,1)=14; shod(0,2)=1; shod(0,3)=2
                # the wear that it has counts
                road(0,1,1,0)=2; road(0,2,1,0)=4; day AbA+Ac; done()=3; state(0,3)=3
                road(1,2,2,1)=3; road(0,2,0,0)=1; road(0,1,1,0)=1; set(1,3)=4; shod(0,0)=3; set(1,4)=3; shod(0,0)=NONE
                """);
    }

    private static void rounds() {
        SCRIPT.play("21 round", ROW + """
                road(2,3,1,0)=0; round(0,14,-1)=12; round(0,14,0)=1; round(0,14,1)=2; round(0,14,2)=3; round(0,14,3)=NONE
                round(0,0,-1)=0; round(0,0,0)=NONE; round(0,15,0)=0; round(0,1,-1)=0; round(0,1,0)=0; round(0,14,-2)=NONE
                day AbAc; done()=2; round(0,10,-1)=7; round(0,10,0)=3; round(0,10,1)=1; round(0,0,-1)=5; round(0,0,0)=NONE
                road(0,3,9,1)=0; round(0,9,-1)=7; road(2,3,1,1)=1; round(0,9,-1)=NONE; round(0,9,0)=NONE; round(0,8,0)=NONE
                round(0,16,0)=OUTSIDE; round(0,-1,0)=OUTSIDE; round(1,16,0)=UNKNOWN; round(-1,0,0)=UNKNOWN
                towns(6)=4; person(1,5,0,0,0)=1; round(1,63,0)=NONE; round(1,64,0)=OUTSIDE; round(1,32,-1)=0; round(1,32,0)=5
                """);
        SCRIPT.play("22 together", ROW + """
                together(1,1,2,0)=10; together(1,1,2,1)=0; together(1,1,2,2)=0
                together(3,1,2,0)=OUTSIDE; person(1,2,0,0,0)=2; together(3,1,2,0)=4; together(3,1,2,1)=0; together(3,1,2,2)=1
                together(3,2,1,0)=4; together(3,2,1,1)=1; together(3,2,1,2)=0; together(2,1,2,0)=6
                # homes count, not where they are, nor whether they limp
                road(0,1,2,2)=2; day AbA+; done()=2; together(1,1,2,0)=10; road(0,1,2,1)=2; together(1,1,2,0)=NONE
                together(3,2,2,0)=0; together(3,2,2,1)=1; together(3,2,2,2)=1; together(3,3,2,0)=NONE; together(3,3,2,1)=NONE; together(3,3,2,2)=NONE
                # of several by who fetches lefts, then rights
                person(2,2,0,0,0)=3; together(7,2,2,1)=1; together(7,2,2,2)=1; together(6,2,1,0)=6; together(6,2,1,1)=1; together(6,2,1,2)=1
                together(0,0,0,0)=OUTSIDE; together(8,0,0,0)=OUTSIDE; together(16,0,0,0)=OUTSIDE; together(-1,0,0,0)=OUTSIDE
                together(1,0,0,3)=OUTSIDE; together(1,0,0,-1)=OUTSIDE; together(0,4,0,3)=UNKNOWN; together(1,0,-1,0)=UNKNOWN
                """);
        SCRIPT.play("22 together: one both is dearer than two who are near", """
                road(0,1,1,0)=0; road(0,2,1,0)=0; person(0,0,0,0,0)=1; person(3,0,0,0,0)=2
                together(9,1,2,0)=4; together(9,1,2,1)=0; together(9,1,2,2)=0; road(1,2,1,0)=0; together(9,1,2,0)=3; together(8,1,2,1)=3
                # roads for those alone who limp are of no use to them
                road(1,2,1,1)=1; together(9,1,2,0)=4; road(0,1,1,1)=1; together(9,1,0,0)=NONE; together(9,0,1,0)=NONE
                person(3,1,0,0,0)=2; together(9,1,2,0)=2; together(9,1,2,1)=3; together(9,1,2,2)=0; road(1,2,5,0)=1; together(8,1,2,0)=10
                """);
    }

    private static void roadsToClose() {
        SCRIPT.play("23 parted", """
                parted(0,1,0)=0; parted(0,1,1)=0; road(2,3,1,0)=0; road(1,2,1,1)=0; road(0,1,1,2)=0
                parted(0,3,0)=1; parted(0,3,1)=1; parted(1,3,1)=2; parted(3,1,1)=2; parted(3,2,1)=4; parted(2,0,1)=1
                road(0,3,1,0)=0; parted(0,2,0)=2; parted(0,2,1)=3; parted(1,3,1)=5; parted(1,2,1)=5; parted(2,3,1)=9
                road(0,2,1,0)=0; parted(0,2,0)=3; parted(0,2,1)=7
                parted(0,0,0)=UNKNOWN; parted(4,0,2)=UNKNOWN; parted(0,-1,0)=UNKNOWN; parted(0,1,2)=OUTSIDE; parted(0,1,-1)=OUTSIDE
                towns(6)=4; road(4,5,1,0)=0; parted(4,5,1)=1; parted(5,0,0)=0
                """);
    }

    private static void prices() {
        SCRIPT.play("24 pairs", """
                stock(0,0,2)=0; stock(0,2,3)=0; stock(1,1,4)=0; stock(1,4,1)=0
                pairs(0,1,0,0)=0; pairs(0,1,0,1)=10; pairs(0,1,1,0)=4; pairs(0,1,1,1)=2; pairs(0,1,2,0)=5; pairs(0,1,2,1)=0
                pairs(1,0,1,0)=4; pairs(1,0,4,0)=5; shop(0,2,1)=0; pairs(0,1,2,0)=5
                stock(2,4,9)=0; stock(3,0,9)=0; pairs(2,3,3,0)=0; pairs(2,3,3,1)=18; pairs(2,3,4,0)=9; pairs(2,3,4,1)=0
                pairs(0,0,0,0)=UNKNOWN; pairs(0,4,5,0)=UNKNOWN; pairs(-1,0,0,0)=UNKNOWN
                pairs(0,1,5,0)=OUTSIDE; pairs(0,1,-1,0)=OUTSIDE; pairs(0,1,0,2)=OUTSIDE; pairs(0,1,0,-1)=OUTSIDE
                """);
        SCRIPT.play("25 rests, 26 owner", """
                rests(-1)=100; rests(0)=0; rests(99)=99; rests(100)=NONE; rests(-2)=NONE; owner(0)=0; owner(1)=0
                person(0,0,0,0,16)=1; rests(-1)=3; rests(0)=79; rests(1)=88; rests(2)=97; rests(3)=NONE; owner(0)=16; owner(1)=16
                person(1,0,0,0,99)=2; owner(0)=99; owner(1)=99; person(1,0,0,0,32)=2; owner(0)=16; owner(1)=32
                person(1,0,0,0,33)=2; owner(0)=33; owner(1)=33; person(1,0,0,0,0)=2; person(0,0,0,0,0)=2; owner(0)=0; owner(1)=0
                # with empty purses no price brings anything, so all are at rest
                rests(-1)=100; rests(1)=1; owner(2)=OUTSIDE; owner(-1)=OUTSIDE
                person(0,0,0,0,99)=2; leave(1)=1; rests(-1)=1; rests(0)=99
                """);
    }

    private static void tracks() {
        SCRIPT.play("27 track", ROW + """
                person(3,0,2,4,0)=2; track(6,6,2)=9; track(5,5,0)=9; track(5,5,1)=0; track(2,6,2)=0
                day AbA+; done()=2; track(2,5,1)=1; track(2,5,0)=0; track(2,6,2)=1; track(6,5,2)=9; track(5,6,2)=8
                track(3,5,2)=0; track(2,2,2)=0; day AcA+; done()=2; track(2,2,1)=1; set(1,9)=3; track(2,2,1)=0; track(2,2,0)=1
                person(1,0,0,0,0)=3; shop(0,1,0)=0; stock(0,0,1)=0; day B+; done()=1; track(0,5,1)=2; track(0,0,2)=0; track(5,0,2)=0
                track(7,0,0)=OUTSIDE; track(-1,0,0)=OUTSIDE; track(0,7,0)=OUTSIDE; track(0,-1,0)=OUTSIDE; track(0,0,3)=OUTSIDE; track(0,0,-1)=OUTSIDE
                """);
        SCRIPT.play("28 seen, 29 forget", """
                seen(3,3)=1; seen(0,0)=2; told(5)=2; seen(4,0)=UNKNOWN; seen(-1,0)=UNKNOWN; seen(0,4)=UNKNOWN; seen(0,-1)=UNKNOWN
                seen(0,0)=3; seen(0,0)=4; seen(0,0)=5; seen(0,1)=6; seen(0,1)=FULL; seen(4,1)=UNKNOWN; told(5)=6
                forget()=6; forget()=0; seen(1,1)=1
                """);
        SCRIPT.play("31 spy", """
                spy(0)=0; spy(1)=0; person(0,0,4,3,0)=1; spy(0)=43; spy(1)=1; person(1,0,3,4,0)=2; spy(0)=34; spy(1)=1
                person(2,0,4,3,0)=3; spy(0)=43; spy(1)=2; person(3,0,3,4,0)=4; spy(0)=34; spy(1)=2; leave(1)=3; spy(0)=43
                person(1,0,0,0,0)=4; leave(2)=3; spy(0)=0; spy(1)=1; person(2,0,0,0,0)=4; spy(0)=0; spy(1)=2
                spy(2)=OUTSIDE; spy(-1)=OUTSIDE
                """);
    }

    private static void fillings() {
        SCRIPT.play("30 filled", ROW + """
                filled(-1)=1; filled(0)=NONE; seen(0,1)=1; filled(-1)=0; day Ab; filled(-1)=1; filled(0)=NONE; filled(-2)=NONE
                seen(0,1)=2; filled(-1)=1; seen(1,1)=3; filled(-1)=0; forget()=3; day Ad; filled(-1)=0
                person(2,0,2,2,20)=2; day ?b?b; filled(-1)=2; filled(0)=0; filled(1)=2; filled(2)=NONE
                day ?b?b?+; filled(-1)=4; filled(0)=0; filled(1)=2; filled(2)=0
                day ?b?+?c; filled(-1)=2; seen(2,2)=1; filled(-1)=1; filled(0)=2; filled(1)=2; filled(2)=2; filled(3)=NONE
                seen(0,2)=2; filled(-1)=0; filled(0)=NONE; leave(2)=1; forget()=2; seen(2,2)=1; filled(-1)=0
                day ?; filled(-1)=NO; filled(0)=NO; filled(9)=NO; day ?-?-?-?-; filled(-1)=NO
                """);
    }

    private static void chances() {
        SCRIPT.play("32 shut", ROW + """
                shut(0,0,0)=1; shut(0,0,1)=1; shut(0,10,0)=0; shut(0,10,1)=1; shut(0,5,0)=1; shut(0,5,1)=4
                shut(0,3,0)=49; shut(0,3,1)=100; shop(0,2,20)=0; stock(0,2,1)=0; shut(0,3,0)=49
                person(0,0,2,2,24)=1; shut(0,3,0)=637; shut(0,3,1)=1000
                shut(1,11,2)=LOST UNKNOWN; shut(-1,0,0)=LOST UNKNOWN; shut(0,11,0)=LOST OUTSIDE; shut(0,-1,0)=LOST OUTSIDE
                shut(0,0,2)=LOST OUTSIDE; shut(0,0,-1)=LOST OUTSIDE
                # shod already: by no shop, if it can come home
                day AbA+AcA+; done()=4; shut(0,9,0)=1; shut(0,9,1)=1; road(0,1,2,2)=2; shut(0,9,0)=0; shut(0,9,1)=1
                """);
        SCRIPT.play("33 year", ROW + """
                # x is 74, 5624, 28652, 51790, 17641: C to c, A to c, A to d, C to d, B to c
                year(0,1,0)=0; year(0,5,0)=0; year(0,5,1)=0; year(0,5,2)=0
                road(0,3,7,0)=0; year(0,2,0)=0; year(0,3,0)=7; year(0,5,0)=7; road(0,3,0,0)=7
                # x is 149, 11249, 57305: B to b, B to a, B to c
                person(1,0,2,2,4)=2; year(1,1,0)=2; year(1,1,1)=1; year(1,1,2)=1; year(1,2,0)=4; year(1,3,0)=4; year(1,2,1)=1
                state(1,0)=0; told(202)=1; year(1,2,2)=1; shop(0,1,0)=0; stock(0,2,1)=0; road(0,1,2,2)=2; year(1,1,0)=2; year(1,2,0)=2; year(1,2,2)=1
                # it buys where it is, if it could not walk
                road(0,1,0,0)=2; year(1,1,0)=0; year(1,1,1)=1; year(1,1,2)=1; year(1,3,1)=1
                # two buy: all who have one shoe limp, who has both as new does not
                person(2,0,2,2,99)=3; stock(0,2,9)=1; year(0,2,1)=2; year(0,2,2)=2; shop(2,2,0)=2; stock(2,2,9)=2; road(0,2,4,1)=0; year(0,3,1)=2
                person(2,2,2,2,99)=3; set(1,9)=3; day C+; done()=1; road(0,2,4,0)=4; shop(2,1,0)=2; year(0,1,1)=1; year(0,1,2)=0
                leave(2)=2; stock(0,2,1)=9; road(0,2,0,0)=4    # one shoe that can be bought, the edges of seed and turns
                year(10000,1,0)=OUTSIDE; year(-1,1,0)=OUTSIDE; year(0,0,0)=OUTSIDE; year(0,100,0)=OUTSIDE; year(0,1,3)=OUTSIDE; year(0,1,-1)=OUTSIDE
                year(9999,99,1)=1
                """);
    }

    private static void images() {
        SCRIPT.play("34 image, 35 restore", ROW + """
                image(2)=OUTSIDE; image(-1)=OUTSIDE; restore(2)=OUTSIDE; restore(-1)=OUTSIDE; restore(0)=STATE
                seen(0,3)=1; image(0)=1; restore(1)=STATE
                day AbA+Ac; done()=3; set(0,5)=1; set(1,6)=3; forget()=1; road(0,1,9,1)=2; shop(1,2,20)=1; stock(1,2,7)=0
                image(1)=1; day Ab; restore(0)=1
                told(0)=2; state(0,0)=0; state(0,1)=20; state(0,2)=0; told(3)=1; told(4)=3; told(5)=1; told(111)=2; told(121)=0
                told(11)=1; told(21)=4; told(202)=1; trodden(1,2,0)=0; filled(-1)=0
                restore(1)=1; state(0,0)=2; state(0,2)=1; told(3)=5; told(4)=6; told(5)=0; told(111)=9; told(121)=1; told(11)=2
                told(21)=20; told(202)=7; trodden(1,2,0)=3; told(0)=2
                # an image stays as it was kept, whatever comes behind
                towns(2)=4; restore(0)=1; told(1)=4; told(2)=1; leave(0)=0; restore(0)=1; told(2)=1; image(0)=1; restore(0)=1
                person(0,3,1,1,1)=1; restore(0)=1; shod(0,1)=10; round(0,2,-1)=4; track(5,5,2)=1; spy(0)=22
                """);
    }

    private static void answers() {
        SCRIPT.play("36 told", ROW + """
                told(6)=OUTSIDE; told(9)=OUTSIDE; told(14)=OUTSIDE; told(19)=OUTSIDE; told(24)=OUTSIDE; told(30)=OUTSIDE; told(99)=OUTSIDE
                told(-1)=OUTSIDE; told(-2147483648)=OUTSIDE; told(2147483647)=OUTSIDE
                told(105)=OUTSIDE; told(109)=OUTSIDE; told(110)=OUTSIDE; told(114)=OUTSIDE; told(120)=OUTSIDE; told(124)=OUTSIDE; told(130)=OUTSIDE
                told(221)=OUTSIDE; told(211)=OUTSIDE; told(500)=OUTSIDE; told(502)=OUTSIDE; told(413)=OUTSIDE
                told(11)=1; told(12)=2; told(21)=4; told(22)=5; told(302)=2; told(312)=OUTSIDE; told(212)=3; told(311)=3; told(210)=2; told(410)=0
                road(2,3,7,2)=0; told(413)=OUTSIDE; told(412)=7; told(313)=7; told(422)=2; told(323)=2
                day Aa?b; told(0)=4; towns(6)=4; told(15)=0; told(604)=0; told(614)=0; told(615)=OUTSIDE; told(700)=OUTSIDE
                """);
        SCRIPT.expect("the constants", OddShoes.NONE == -6 && OddShoes.UNKNOWN == -1 && OddShoes.OUTSIDE == -2
                && OddShoes.STATE == -3 && OddShoes.FULL == -4 && OddShoes.NO == -5
                && OddShoes.LOST == -1000000000000000000L);
    }
}
