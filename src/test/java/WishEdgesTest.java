/** The boundaries of lots, buyers and wishes: promises 1 to 12. */
public final class WishEdgesTest {
    public static void main(String[] args) {
        newObject();
        lastCall();
        lotNumbers();
        lotCount();
        buyerCount();
        buyerNumbers();
        signCodes();
        signCount();
        wiping();
        faultOfCounts();
        faultOfNumbers();
        faultOfAlternatives();
        faultOfFifty();
        wishing();
        wishingAgain();
        alternativeNumbers();
        leavingOut();
        leftOutIsNotThere();
        worthHeaps();
        worthMet();
        worthGreatest();
        reasons();
        Edge.finish("WishEdgesTest", 1, 12);
    }

    private static void newObject() {
        Edge.edge(1, "no LOTS, BUYERS; TOP is 100", """
            told 0 -> 0
            told 1 -> 0
            told 2 -> 0
            told 3 -> 0
            told 4 -> 100
            stand
            sold 0 0 -> UNKNOWN
            day 0 0 -> UNKNOWN
            price 0 0 -> UNKNOWN
            set 0 0 0 -> UNKNOWN
            swap 0 0 -> UNKNOWN
            fault -> 0
            missing -> 0
            dealt -1 -> 0
            raised 0 -> 0
            raised 1 -> 0
            orders 0 -> 0
            orders 1 -> 0
            broken 0 -> 0
            broken 1 -> 0
            unlearn -> 0
            wipe -> 0
            top 100 -> 100
            """);
        Edge.check(1, "UNKNOWN", FallClocks.UNKNOWN, -1);
        Edge.check(1, "OUTSIDE", FallClocks.OUTSIDE, -2);
        Edge.check(1, "STATE", FallClocks.STATE, -3);
        Edge.check(1, "FULL", FallClocks.FULL, -4);
        Edge.check(1, "NO", FallClocks.NO, -5);
        Edge.check(1, "NONE", FallClocks.NONE, -6);
        Edge.check(1, "LOST", FallClocks.LOST, -1000000000);
    }

    /** It is used for at most 512 calls: the last of them is answered like the first. */
    private static void lastCall() {
        FallClocks x = new FallClocks();
        for (int call = 1; call < 511; call += 2) {
            Edge.check(1, "call " + call + " of 512", x.say('1'), 1);
            Edge.check(1, "call " + (call + 1) + " of 512", x.wipe(), 1);
        }
        Edge.check(1, "call 511 of 512", x.lot(4, 2, 200), 0);
        Edge.check(1, "call 512 of 512", x.sold(0, 2), 0);
    }

    private static void lotNumbers() {
        Edge.edge(2, "a SORT (0 to 4)", """
            lot MIN 0 0 -> OUTSIDE
            lot -1 0 0 -> OUTSIDE
            lot 0 0 0 -> 0
            lot 4 0 0 -> 1
            lot 5 0 0 -> OUTSIDE
            lot MAX 0 0 -> OUTSIDE
            buyers 1a=7|1e=9
            worth 0 1 -> 7
            worth 0 2 -> 9
            told 0 -> 2
            """);
        Edge.edge(2, "a CLOCK (0 to 2)", """
            lot 0 MIN 0 -> OUTSIDE
            lot 0 -1 0 -> OUTSIDE
            lot 0 0 0 -> 0
            lot 0 2 0 -> 1
            lot 0 0 0 -> 2
            lot 0 2 0 -> 3
            lot 0 3 0 -> OUTSIDE
            lot 0 MAX 0 -> OUTSIDE
            sells 0 NONE NONE 100
            sells 1 NONE NONE 100
            sells 2 NONE NONE 201
            sells 3 NONE NONE 201
            """);
        Edge.edge(2, "the LEAST price (0 to 200)", """
            lot 0 0 MIN -> OUTSIDE
            lot 0 0 -1 -> OUTSIDE
            lot 0 0 0 -> 0
            lot 0 1 200 -> 1
            lot 0 0 201 -> OUTSIDE
            lot 0 0 MAX -> OUTSIDE
            top 200 -> 100
            sells 0 NONE NONE 200
            sells 1 NONE NONE 0
            """);
    }

    private static void lotCount() {
        Edge.edge(2, "LOTS, 8 at most, numbered from 0 on", """
            lots a0 b0 c0 d0 e0 a1 b1
            told 0 -> 7
            lot 2 1 0 -> 7
            told 0 -> 8
            lot 2 1 0 -> FULL
            lot 2 2 200 -> FULL
            stand 0 1 2 3 4 5 6 7
            """);
        Edge.edge(2, "OUTSIDE is ahead of FULL", """
            lots a0 b0 c0 d0 e0 a1 b1 c1
            lot -1 0 0 -> OUTSIDE
            lot 5 0 0 -> OUTSIDE
            lot 0 3 0 -> OUTSIDE
            lot 0 0 201 -> OUTSIDE
            lot 4 2 200 -> FULL
            """);
        Edge.edge(2, "it is the last one of the ORDER", """
            lots a0 b0
            swap 0 1 -> 1
            stand 1 0
            lot 0 0 0 -> 2
            stand 1 0 2
            swap 2 1 -> 1
            stand 2 0 1
            lot 0 0 0 -> 3
            stand 2 0 1 3
            """);
    }

    private static void buyerCount() {
        Edge.edge(3, "BUYERS, 6 at most, numbered from 0 on", """
            buyer -> 0
            buyer -> 1
            buyer -> 2
            buyer -> 3
            buyer -> 4
            told 1 -> 5
            set 5 0 0 -> UNKNOWN
            buyer -> 5
            told 1 -> 6
            buyer -> FULL
            buyer -> FULL
            told 1 -> 6
            set 6 0 0 -> UNKNOWN
            """);
        Edge.edge(3, "COIN 200, CUT 10, MARK 50 at first; no WISH: nothing is worth anything", """
            lots a0 b0
            buyer -> 0
            ends 0 0 0 0 200
            worth 0 0 -> 0
            worth 0 3 -> 0
            why 0 3 -> NONE
            told 10 -> 0
            alternative 0 0 0 -> UNKNOWN
            dealt 0 -> 0
            likes 0 0 -> 0
            set 0 0 200 -> 200
            set 0 1 10 -> 10
            set 0 2 50 -> 50
            leave 0 0 -> 0
            """);
    }

    private static void buyerNumbers() {
        Edge.edge(4, "COIN (0 to 1000; 200 at first)", """
            buyers 1a=5
            set 0 0 -1 -> OUTSIDE
            set 0 0 1001 -> OUTSIDE
            set 0 0 MIN -> OUTSIDE
            set 0 0 MAX -> OUTSIDE
            set 0 0 0 -> 200
            day 0 3 -> 0
            set 0 0 1000 -> 0
            set 0 0 1001 -> OUTSIDE
            day 0 3 -> 1000
            set 0 0 999 -> 1000
            """);
        Edge.edge(4, "CUT (0 to 99; 10 at first)", """
            buyer -> 0
            set 0 1 -1 -> OUTSIDE
            set 0 1 100 -> OUTSIDE
            set 0 1 MIN -> OUTSIDE
            set 0 1 MAX -> OUTSIDE
            set 0 1 0 -> 10
            set 0 1 99 -> 0
            set 0 1 98 -> 99
            """);
        Edge.edge(4, "MARK (0 to 99; 50 at first)", """
            buyer -> 0
            set 0 2 -1 -> OUTSIDE
            set 0 2 100 -> OUTSIDE
            set 0 2 MIN -> OUTSIDE
            set 0 2 MAX -> OUTSIDE
            set 0 2 0 -> 50
            set 0 2 99 -> 0
            set 0 2 98 -> 99
            """);
        Edge.edge(4, "0 COIN, 1 CUT, 2 MARK of a BUYER; UNKNOWN is ahead of OUTSIDE", """
            set 0 0 0 -> UNKNOWN
            buyer -> 0
            buyer -> 1
            set -1 0 0 -> UNKNOWN
            set 2 0 0 -> UNKNOWN
            set MIN 0 0 -> UNKNOWN
            set MAX 0 0 -> UNKNOWN
            set 2 3 -1 -> UNKNOWN
            set -1 -1 1001 -> UNKNOWN
            set 0 -1 0 -> OUTSIDE
            set 1 3 0 -> OUTSIDE
            set 0 MIN 0 -> OUTSIDE
            set 0 MAX 0 -> OUTSIDE
            set 1 0 7 -> 200
            set 1 2 8 -> 50
            set 0 0 9 -> 200
            set 0 1 9 -> 10
            set 0 2 9 -> 50
            set 1 0 0 -> 7
            set 1 1 0 -> 10
            set 1 2 0 -> 8
            """);
    }

    private static void signCodes() {
        Edge.edge(5, "signs (codes 33 to 126)", """
            say MIN -> OUTSIDE
            say -1 -> OUTSIDE
            say 0 -> OUTSIDE
            say 32 -> OUTSIDE
            say 33 -> 1
            say 126 -> 2
            say 127 -> OUTSIDE
            say 128 -> OUTSIDE
            say 255 -> OUTSIDE
            say MAX -> OUTSIDE
            told 2 -> 2
            """);
        for (int code = 33; code <= 126; code++) {
            FallClocks x = new FallClocks();
            Edge.check(5, "code " + code, x.say(code), 1);
        }
    }

    private static void signCount() {
        String forty = "1a=1|1a=2|1a=3|1a=4|1a=5|1a=6|1a=7|1a=8|";
        Edge.edge(5, "a text of up to 50 signs", """
            text %s123456789
            told 2 -> 49
            say 33 -> 50
            say 33 -> FULL
            say 126 -> FULL
            told 2 -> 50
            wipe -> 50
            say 33 -> 1
            """.formatted(forty));
        Edge.edge(5, "OUTSIDE is ahead of FULL", """
            text %s1234567890
            say 32 -> OUTSIDE
            say 127 -> OUTSIDE
            say MIN -> OUTSIDE
            say 50 -> FULL
            """.formatted(forty));
    }

    private static void wiping() {
        Edge.edge(6, "signs go: how many there were", """
            wipe -> 0
            say 49 -> 1
            wipe -> 1
            told 2 -> 0
            fault -> 0
            wipe -> 0
            text 1a=1|1a=2|1a=3|1a=4|1a=5|1a=6|1a=7|1a=8|1a=9|1a=10
            wipe -> 50
            wipe -> 0
            told 2 -> 0
            """);
        Edge.edge(6, "a WISH that is had stays, and nothing of what went comes back", """
            lots a0 b0
            buyers 1a=5
            text 1a=9|1
            wipe -> 6
            worth 0 1 -> 5
            told 10 -> 1
            text 1b=8
            fault -> NONE
            wish 0 -> 1
            alternative 0 0 0 -> 8
            alternative 0 0 1 -> 0
            """);
    }

    /** A text with its FAULT: by that it is a WISH or not. */
    private static void text(String sentence, String signs, int fault) {
        int alternatives = fault < 0 ? signs.split("\\|").length : -5;
        Edge.edge(7, sentence + ": " + signs, """
            buyers -
            %s
            fault -> %d
            wish 0 -> %d
            told 2 -> %d
            """.formatted(signs.isEmpty() ? "" : "text " + signs, fault, alternatives, fault < 0 ? 0 : signs.length()));
    }

    private static void faultOfCounts() {
        String digit = "a digit 1 to 9";
        text(digit, "/", 0);
        text(digit, "0", 0);
        text(digit, "1a=1", -6);
        text(digit, "9a=1", -6);
        text(digit, ":", 0);
        text(digit, "a", 0);
        text(digit, "11", 1);
        text(digit, "1a/b=1", 2);
        text(digit, "1a0b=1", 2);
        text(digit, "1a1b=1", -6);
        text(digit, "1a9b=1", -6);
        text(digit, "1a:b=1", 2);
        String letter = "a SORT's letter (a to e)";
        text(letter, "1`=1", 1);
        text(letter, "1a=1", -6);
        text(letter, "1e=1", -6);
        text(letter, "1f=1", 1);
        text(letter, "1A=1", 1);
        text(letter, "1E=1", 1);
        text(letter, "1=1", 1);
        text(letter, "1a1f=1", 3);
        String rising = "rising";
        text(rising, "1a1a=1", 3);
        text(rising, "1a1b=1", -6);
        text(rising, "1b1a=1", 3);
        text(rising, "1a1e=1", -6);
        text(rising, "1d1e=1", -6);
        text(rising, "1d1d=1", 3);
        text(rising, "1d1c=1", 3);
        text(rising, "1a1c1b=1", 5);
        text(rising, "1b1c1c=1", 5);
        text(rising, "1e1", 2);
        text(rising, "1e9e=1", 2);
        text(rising, "1a1b1c1d1e=1", -6);
        text(rising, "9a9b9c9d9e9", 10);
        text(rising, "1e=1|1a=1", -6);
        text("one or more of them", "=1", 0);
        text("one or more of them", "1a=1|=1", 5);
    }

    private static void faultOfNumbers() {
        String equals = "then =";
        text(equals, "1a<", 2);
        text(equals, "1a>", 2);
        text(equals, "1a|", 2);
        text(equals, "1ab", 2);
        text(equals, "1a==1", 3);
        String digits = "and 1 to 3 digits";
        text(digits, "1a=", 3);
        text(digits, "1a=/", 3);
        text(digits, "1a=0", -6);
        text(digits, "1a=9", -6);
        text(digits, "1a=:", 3);
        text(digits, "1a=a", 3);
        text(digits, "1a=|", 3);
        text(digits, "1a=00", -6);
        text(digits, "1a=99", -6);
        text(digits, "1a=000", -6);
        text(digits, "1a=999", -6);
        text(digits, "1a=0000", 6);
        text(digits, "1a=9999", 6);
        text(digits, "1a=1/", 4);
        text(digits, "1a=1:", 4);
        text(digits, "1a=12=", 5);
        text(digits, "1a=123a", 6);
        text(digits, "1a=999|1a=9999", 13);
    }

    private static void faultOfAlternatives() {
        String between = "a | between two";
        text(between, "|", 0);
        text(between, "|1a=1", 0);
        text(between, "1a=1|1a=1", -6);
        text(between, "1a=1||1a=1", 5);
        text(between, "1a=1{1a=1", 4);
        text(between, "1a=1}1a=1", 4);
        String most = "ALTERNATIVES, 6 at most";
        text(most, "1a=1|1a=2|1a=3|1a=4|1a=5", -6);
        text(most, "1a=1|1a=2|1a=3|1a=4|1a=5|", 25);
        text(most, "1a=1|1a=2|1a=3|1a=4|1a=5|1a=6", -6);
        text(most, "1a=1|1a=2|1a=3|1a=4|1a=5|1a=6|", 29);
        text(most, "1a=1|1a=2|1a=3|1a=4|1a=5|1a=6|1a=7", 29);
        text(most, "1a=1|1a=2|1a=3|1a=4|1a=5|1a=66|", 30);
        String more = "the number of signs, if more must come";
        text(more, "", 0);
        text(more, "1", 1);
        text(more, "1a", 2);
        text(more, "1a2", 3);
        text(more, "1a2b", 4);
        text(more, "1a2b=", 5);
        text(more, "1a2b=3|", 7);
        text(more, "1a2b=3|4", 8);
        text(more, "1a2b=3|4c", 9);
        text(more, "1a2b=3|4c=", 10);
        String first = "the first sign that can not stand there";
        text(first, "!1a=1", 0);
        text(first, "1!0", 1);
        text(first, "1a!|", 2);
        text(first, "1a=!!", 3);
        text(first, "1a=1~0", 4);
        text(first, "1a=1|0|", 5);
    }

    private static void faultOfFifty() {
        String fifty = "up to 50 signs";
        String long14 = "1a1b1c1d1e=999";
        String begun = long14 + "|" + long14 + "|" + long14 + "|";
        text(fifty, begun + "1b=7", -6);
        text(fifty, begun + "1b=77", -6);
        text(fifty, begun + "1b1c=", 50);
        text(fifty, begun + "1b=7|", 50);
        text(fifty, begun + "1b=7a", 49);
        text(fifty, begun + "1b1b1", 48);
        text(fifty, "1a1b=999|1a1b=999|1a1b=999|1a1b=99|1a1b=99|1a1b=99", -6);
        text(fifty, "1a1b=999|1a1b=999|1a1b=99|1a1b=99|1a1b=99|1a1b=99|", 49);
        Edge.edge(7, "THE FAULT of 50 signs stays as the 51st is refused", """
            text %s1b=77
            fault -> NONE
            say 55 -> FULL
            fault -> NONE
            say 124 -> FULL
            fault -> NONE
            """.formatted(begun));
    }

    private static void wishing() {
        Edge.edge(8, "UNKNOWN; NO: there is a FAULT", """
            wish 0 -> UNKNOWN
            text 1a=5
            wish 0 -> UNKNOWN
            wish -1 -> UNKNOWN
            told 2 -> 4
            buyer -> 0
            wish 1 -> UNKNOWN
            wish MIN -> UNKNOWN
            wish MAX -> UNKNOWN
            wish 0 -> 1
            wish 0 -> NO
            wish 1 -> UNKNOWN
            """);
        Edge.edge(8, "UNKNOWN is ahead of NO, and a WISH that is had stays", """
            buyers 1b=5|1c=6
            text 1a=5|
            wish 1 -> UNKNOWN
            wish -1 -> UNKNOWN
            wish 0 -> NO
            told 2 -> 5
            fault -> 5
            told 10 -> 2
            alternative 0 1 0 -> 6
            text 1
            wish 0 -> NO
            text a=7
            wish 0 -> 2
            alternative 0 1 0 -> 7
            """);
        Edge.edge(8, "the sixth BUYER, and six ALTERNATIVES", """
            buyers - - - - - -
            text 1a=1|1a=2|1a=3|1a=4|1a=5|1a=6
            wish 6 -> UNKNOWN
            wish 5 -> 6
            told 15 -> 6
            told 14 -> 0
            alternative 5 5 0 -> 6
            """);
    }

    private static void wishingAgain() {
        Edge.edge(8, "they are empty then; nothing of it is left out", """
            lots a0 b0
            buyers 1a=5|1b=6 1a=3
            leave 0 3 -> 0
            leave 1 1 -> 0
            worth 0 3 -> 0
            text 1a=7|1b=8
            wish 0 -> 2
            told 2 -> 0
            fault -> 0
            worth 0 3 -> 8
            worth 1 3 -> 0
            leave 0 0 -> 0
            leave 1 0 -> 1
            """);
        Edge.edge(8, "ALTERNATIVES: of one where there were six", """
            lots a0 b0
            buyers 1a=1|1a=2|1a=3|1a=4|1a=5|1a=6
            leave 0 63 -> 0
            wishes 0 1b=4
            told 10 -> 1
            alternative 0 0 0 -> 4
            alternative 0 0 1 -> 0
            alternative 0 0 2 -> 1
            alternative 0 1 0 -> UNKNOWN
            worth 0 1 -> 0
            worth 0 2 -> 4
            leave 0 2 -> OUTSIDE
            leave 0 1 -> 0
            """);
    }

    private static void alternativeNumbers() {
        Edge.edge(9, "UNKNOWN: there is no such BUYER, ALTERNATIVE", """
            alternative 0 0 0 -> UNKNOWN
            buyers 1a=5|2b=60 -
            alternative -1 0 0 -> UNKNOWN
            alternative 2 0 0 -> UNKNOWN
            alternative MIN 0 0 -> UNKNOWN
            alternative MAX 0 0 -> UNKNOWN
            alternative 1 0 0 -> UNKNOWN
            alternative 0 -1 0 -> UNKNOWN
            alternative 0 0 0 -> 5
            alternative 0 1 0 -> 60
            alternative 0 2 0 -> UNKNOWN
            alternative 0 MIN 0 -> UNKNOWN
            alternative 0 MAX 0 -> UNKNOWN
            """);
        Edge.edge(9, "0 what it is worth, 1 to 5 how many of SORTS 0 to 4; UNKNOWN is ahead of OUTSIDE", """
            buyers 9a8b7c6d5e=999|1e=000
            alternative 0 0 -1 -> OUTSIDE
            alternative 0 0 0 -> 999
            alternative 0 0 1 -> 9
            alternative 0 0 2 -> 8
            alternative 0 0 3 -> 7
            alternative 0 0 4 -> 6
            alternative 0 0 5 -> 5
            alternative 0 0 6 -> OUTSIDE
            alternative 0 1 0 -> 0
            alternative 0 1 4 -> 0
            alternative 0 1 5 -> 1
            alternative 0 1 6 -> OUTSIDE
            alternative 0 0 MIN -> OUTSIDE
            alternative 0 0 MAX -> OUTSIDE
            alternative 0 2 6 -> UNKNOWN
            alternative 0 -1 -1 -> UNKNOWN
            alternative 1 0 6 -> UNKNOWN
            """);
        Edge.edge(9, "the sixth", """
            buyers 1a=1|1a=2|1a=3|1a=4|1a=5|6e=7
            alternative 0 5 0 -> 7
            alternative 0 5 5 -> 6
            alternative 0 6 0 -> UNKNOWN
            leave 0 32 -> 0
            alternative 0 5 0 -> 7
            """);
    }

    private static void leavingOut() {
        Edge.edge(10, "as bits: which they were; OUTSIDE: bits of none", """
            leave 0 0 -> UNKNOWN
            buyers 1a=5|1b=6 -
            leave 0 -1 -> OUTSIDE
            leave 0 4 -> OUTSIDE
            leave 0 7 -> OUTSIDE
            leave 0 MIN -> OUTSIDE
            leave 0 MAX -> OUTSIDE
            leave 0 3 -> 0
            leave 0 4 -> OUTSIDE
            leave 0 2 -> 3
            leave 0 1 -> 2
            leave 0 0 -> 1
            leave 0 0 -> 0
            leave 1 1 -> OUTSIDE
            leave 1 0 -> 0
            """);
        Edge.edge(10, "UNKNOWN is ahead of OUTSIDE", """
            buyers 1a=5
            leave -1 0 -> UNKNOWN
            leave 1 0 -> UNKNOWN
            leave MIN 0 -> UNKNOWN
            leave MAX 0 -> UNKNOWN
            leave 1 -1 -> UNKNOWN
            leave -1 2 -> UNKNOWN
            leave 0 2 -> OUTSIDE
            leave 0 1 -> 0
            """);
        Edge.edge(10, "six ALTERNATIVES have six bits", """
            buyers 1a=1|1a=2|1a=3|1a=4|1a=5|1a=6
            leave 0 64 -> OUTSIDE
            leave 0 63 -> 0
            leave 0 32 -> 63
            leave 0 65 -> OUTSIDE
            leave 0 0 -> 32
            """);
    }

    private static void leftOutIsNotThere() {
        Edge.edge(10, "then they are as if they were not there", """
            lots a0 b1
            buyers 1a=30|1b=20 1a=5
            ends 0 1 30 30 170
            dealt -1 -> 30
            likes 0 0 -> 1
            leave 0 1 -> 0
            worth 0 3 -> 20
            why 0 3 -> 1
            ends 0 2 20 20 180
            ends 1 1 5 5 195
            dealt -1 -> 25
            dealt 0 -> 2
            likes 0 0 -> 2
            leave 0 3 -> 1
            worth 0 3 -> 0
            why 0 3 -> NONE
            ends 0 0 0 0 200
            dealt -1 -> 5
            likes 0 0 -> 0
            gain 0 -> 0
            worth 1 1 -> 5
            """);
        Edge.edge(10, "by BUYER", """
            lots a0
            buyers 1a=30 1a=30
            leave 0 1 -> 0
            worth 0 1 -> 0
            worth 1 1 -> 30
            leave 1 1 -> 0
            leave 0 0 -> 1
            worth 0 1 -> 30
            worth 1 1 -> 0
            """);
    }

    private static void worthHeaps() {
        Edge.edge(11, "OUTSIDE: bits of no LOTS", """
            worth 0 0 -> UNKNOWN
            buyers 1a=5
            worth 0 0 -> 0
            worth 0 1 -> OUTSIDE
            worth 0 -1 -> OUTSIDE
            lots a0
            worth 0 0 -> 0
            worth 0 1 -> 5
            worth 0 2 -> OUTSIDE
            worth 0 3 -> OUTSIDE
            worth 0 MIN -> OUTSIDE
            worth 0 MAX -> OUTSIDE
            worth -1 0 -> UNKNOWN
            worth 1 0 -> UNKNOWN
            worth MIN 0 -> UNKNOWN
            worth MAX 0 -> UNKNOWN
            worth 1 2 -> UNKNOWN
            worth -1 -1 -> UNKNOWN
            """);
        Edge.edge(11, "a HEAP of all eight", """
            lots a0 a0 a0 a0 a0 a0 a0
            buyers 8a=80|7a=70|9a=999
            worth 0 127 -> 70
            worth 0 128 -> OUTSIDE
            lots a0
            worth 0 254 -> 70
            worth 0 255 -> 80
            worth 0 128 -> 0
            worth 0 256 -> OUTSIDE
            """);
    }

    private static void worthMet() {
        Edge.edge(11, "so many LOTS, or more", """
            lots a0 a0 a0
            buyers 2a=5
            worth 0 1 -> 0
            worth 0 4 -> 0
            worth 0 3 -> 5
            worth 0 5 -> 5
            worth 0 6 -> 5
            worth 0 7 -> 5
            """);
        Edge.edge(11, "of each SORT that it names", """
            lots a0 b0 c0 d0 e0 e0
            buyers 1a1b1c1d2e=5|1b=1
            worth 0 63 -> 5
            worth 0 62 -> 1
            worth 0 61 -> 0
            worth 0 59 -> 1
            worth 0 55 -> 1
            worth 0 47 -> 1
            worth 0 31 -> 1
            worth 0 2 -> 1
            worth 0 1 -> 0
            """);
        Edge.edge(11, "none makes up for another", """
            lots a0 a0 a0 a0 a0 a0 a0 b0
            buyers 1a2b=9|8a=8|1c=7|7a1b=5|7a=4
            worth 0 255 -> 5
            worth 0 127 -> 4
            worth 0 128 -> 0
            worth 0 254 -> 0
            """);
    }

    private static void worthGreatest() {
        Edge.edge(11, "the greatest number of an ALTERNATIVE that is MET; 0 without any", """
            lots a0 b0
            buyers 1a=999|1b=1|1a1b=998|1c=999 1a=0
            worth 0 0 -> 0
            worth 0 1 -> 999
            worth 0 2 -> 1
            worth 0 3 -> 999
            leave 0 1 -> 0
            worth 0 3 -> 998
            worth 0 1 -> 0
            worth 1 3 -> 0
            """);
    }

    private static void reasons() {
        Edge.edge(12, "the first such; NONE: it is 0 without any", """
            lots a0 b0 c0
            buyers 1a=5|1b=5|1a1b=6|1c=0|1a1b=6 -
            why 0 0 -> NONE
            why 0 1 -> 0
            why 0 2 -> 1
            why 0 3 -> 2
            why 0 4 -> 3
            why 0 7 -> 2
            leave 0 4 -> 0
            why 0 3 -> 4
            leave 0 28 -> 4
            why 0 7 -> 0
            why 0 4 -> NONE
            leave 0 31 -> 28
            why 0 7 -> NONE
            why 1 7 -> NONE
            """);
        Edge.edge(12, "UNKNOWN; OUTSIDE", """
            why 0 0 -> UNKNOWN
            buyers 1a=5
            why 0 0 -> NONE
            why 0 1 -> OUTSIDE
            lots a0
            why 0 1 -> 0
            why 0 2 -> OUTSIDE
            why 0 -1 -> OUTSIDE
            why 0 MIN -> OUTSIDE
            why 0 MAX -> OUTSIDE
            why -1 0 -> UNKNOWN
            why 1 0 -> UNKNOWN
            why MIN 0 -> UNKNOWN
            why MAX 0 -> UNKNOWN
            why 1 2 -> UNKNOWN
            why -1 -1 -> UNKNOWN
            """);
        Edge.edge(12, "of six, the last; of all eight LOTS", """
            lots a0 a0 a0 a0 a0 a0 a0 a0
            buyers 9a=9|1b=9|1c=9|1d=9|1e=9|8a=9
            why 0 255 -> 5
            why 0 254 -> NONE
            why 0 127 -> NONE
            why 0 256 -> OUTSIDE
            """);
    }
}
