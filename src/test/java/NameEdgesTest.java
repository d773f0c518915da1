/**
 * The edges that the document names of the text of sounds, the sounds of names and slips: promises 9
 * to 13 and their terms. Each method is one sentence, or the part of one that names an edge.
 */
public final class NameEdgesTest {
    private static final int NONE = Desk.NONE, BAD = Desk.BAD, FULL = Desk.FULL;
    private static final int LEAST = Integer.MIN_VALUE, MOST = Integer.MAX_VALUE;
    private static final Due due = new Due();

    public static void main(String[] args) {
        bytesAreZeroTo255();
        eightyBytes();
        wipeOfAny();
        anEmptyTextIsAFault();
        oneLetterAtLeast();
        lettersAreAToZ();
        figuresAreZeroTo9();
        groupsWithSemicolonsBetween();
        eachLetterInOneGroupAtMost();
        theFirstOfTwoFaults();
        aTextThatEndsTooEarly();
        aFaultAtEachEndOfEighty();
        lettersInNoGroup();
        withAFaultAllHaveTheirOwn();
        theFirstLetterAsItsOwn();
        figureZeroIsLeftOut();
        ofLikeNeighboursOneStands();
        soundAlikeIfAllIsTheSame();
        notSoLong();
        noSuchRow();
        noSlipsAndAllSlips();
        neighboursAtTheEnds();
        noLetterIsChangedTwice();
        slipsOfNoSuchRow();
        due.end();
    }

    // Promise 9: "A byte (0 to 255)"
    private static void bytesAreZeroTo255() {
        int[] none = {LEAST, -1, 256, 97 + 256, MOST};
        for (int b : none) {
            OneSelf x = new OneSelf();
            due.is("type(" + b + ")", x.type(b), BAD);
            due.is("bytes after it", x.count(7), 0);
        }
        due.is("type(0)", new OneSelf().type(0), 1);
        due.is("type(255)", new OneSelf().type(255), 1);
    }

    // Terms 2: "a text of up to 80 bytes"; promise 9: "BAD; FULL."
    private static void eightyBytes() {
        OneSelf x = new OneSelf();
        for (int n = 1; n <= 80; n++) {
            due.is("byte number " + n, x.type('a'), n);
        }
        due.is("byte number 81", x.type('a'), FULL);
        due.is("BAD ahead of FULL", x.type(256), BAD);
        due.is("BAD ahead of FULL, below", x.type(-1), BAD);
        due.is("bytes of SOUNDS", x.count(7), 80);
        due.is("FULL is no FINDING", x.count(8), 0);
        due.is("wipe() of 80", x.wipe(), 80);
        due.is("room again", x.type('a'), 1);
    }

    // Promise 10: "SOUNDS are empty: how many bytes they had."
    private static void wipeOfAny() {
        OneSelf x = new OneSelf();
        due.is("of none", x.wipe(), 0);
        x.type(0);
        due.is("of one", x.wipe(), 1);
        due.is("of none again", x.wipe(), 0);
        due.is("no bytes", x.count(7), 0);
    }

    // Terms 2: "(of an empty text 0)"
    private static void anEmptyTextIsAFault() {
        Desk d = new Desk();
        due.is("of a new object", d.x.fault(), 0);
        due.is("a=1", d.faultOf("a=1"), NONE);
        d.x.wipe();
        due.is("of a text wiped", d.x.fault(), 0);
    }

    // Terms 2: "letters (one at least"
    private static void oneLetterAtLeast() {
        Desk d = new Desk();
        due.is("no letter ahead of =", d.faultOf("=1"), 0);
        due.is("no letter at all", d.faultOf("1"), 0);
        due.is("no letter in the second group", d.faultOf("a=1;=1"), 4);
        due.is("one letter", d.faultOf("a=1"), NONE);
        due.is("all 26", d.faultOf("zyxwvutsrqponmlkjihgfedcba=1"), NONE);
    }

    // Terms 2: letters are a to z
    private static void lettersAreAToZ() {
        Desk d = new Desk();
        due.is("a", d.faultOf("a=1"), NONE);
        due.is("z", d.faultOf("z=1"), NONE);
        int[] none = {0, 32, 'A', 'Z', 96, 123, 128, 97 + 128, 255};
        for (int b : none) {
            due.is("byte " + b + " as the first letter", d.faultOf((char) b + "=1"), 0);
            due.is("byte " + b + " as the second letter", d.faultOf("k" + (char) b + "=1"), 1);
        }
    }

    // Terms 2: "= and a figure (0 to 9)"
    private static void figuresAreZeroTo9() {
        Desk d = new Desk();
        for (char figure = '0'; figure <= '9'; figure++) {
            due.is("figure " + figure, d.faultOf("a=" + figure), NONE);
        }
        int[] none = {0, 9, '/', ':', 'a', '=', ';', 255};
        for (int b : none) {
            due.is("byte " + b + " as a figure", d.faultOf("a=" + (char) b), 2);
        }
        due.is("two figures", d.faultOf("a=10"), 3);
        due.is("no =", d.faultOf("a1"), 1);
        due.is("two =", d.faultOf("a==1"), 2);
    }

    // Terms 2: "groups with ; between them"
    private static void groupsWithSemicolonsBetween() {
        Desk d = new Desk();
        due.is("two groups", d.faultOf("a=1;b=1"), NONE);
        due.is("nothing between them", d.faultOf("a=1b=1"), 3);
        due.is("another sign between them", d.faultOf("a=1,b=1"), 3);
        due.is("two ;", d.faultOf("a=1;;b=1"), 4);
        due.is("; ahead of them", d.faultOf(";a=1"), 0);
        due.is("; behind them", d.faultOf("a=1;"), 4);
        due.is("; within one", d.faultOf("a;=1"), 1);
    }

    // Terms 2: "each in one group at most", "or of a letter that came before"
    private static void eachLetterInOneGroupAtMost() {
        Desk d = new Desk();
        due.is("in a later group", d.faultOf("a=1;a=1"), 4);
        due.is("as the last of a later group", d.faultOf("ab=1;cdb=1"), 7);
        due.is("twice in one", d.faultOf("aa=1"), 1);
        due.is("twice in one, not neighbours", d.faultOf("aba=1"), 2);
        due.is("z again", d.faultOf("z=1;yz=2"), 5);
        due.is("all 26 and one again", d.faultOf("abcdefghijklmnopqrstuvwxyz=1;m=2"), 29);
    }

    // Terms 2: "the place of the first byte"
    private static void theFirstOfTwoFaults() {
        Desk d = new Desk();
        due.is("a letter again, then a byte that can't be", d.faultOf("aa!"), 1);
        due.is("a byte that can't be, then a letter again", d.faultOf("a!a"), 1);
        due.is("two that can't be", d.faultOf("ab!!"), 2);
        due.is("a letter again where none can be", d.faultOf("a=1a"), 3);
        due.is("a fault stays when more comes", d.faultOf("a=1;;b=2;c=3"), 4);
    }

    // Terms 2: "the first byte with which it cannot go on": there is none, and it can't end here
    private static void aTextThatEndsTooEarly() {
        Desk d = new Desk();
        String text = "ab=1;c=2";
        int[] want = {0, 1, 2, 3, NONE, 5, 6, 7, NONE};
        for (int n = 0; n <= text.length(); n++) {
            due.is("the first " + n + " of " + text, d.faultOf(text.substring(0, n)), want[n]);
        }
    }

    /** A text of n bytes without a fault; n is of the form 4 k + 3, as each group has four and the last no ;. */
    private static String groups(int n) {
        StringBuilder text = new StringBuilder();
        for (char c = 'a'; text.length() < n; c++) {
            text.append(c).append("=1;");
        }
        text.setLength(n);
        return text.toString();
    }

    private static void aFaultAtEachEndOfEighty() {
        Desk d = new Desk();
        due.is("79 bytes", d.faultOf(groups(79)), NONE);
        due.is("80 bytes, the last ;", d.faultOf(groups(80)), 80);
        due.is("80 bytes, the last can't be", d.faultOf(groups(79) + "2"), 79);
        due.is("80 bytes, the first can't be", d.faultOf("=" + groups(79)), 0);
        due.is("80 bytes, all well", d.faultOf("yz=1;" + groups(75)), NONE);
        due.is("there are 80", d.x.count(7), 80);
        due.is("one more", d.x.type('!'), FULL);
        due.is("which is refused, and so no fault", d.x.fault(), NONE);
    }

    // Terms 2: "Letters that are in no group .. have their own sign."
    private static void lettersInNoGroup() {
        Desk d = new Desk();
        d.row(0, "azbycx");
        d.sounds("b=5");
        due.isTrue("all but b: " + d.soundOf(0), d.soundOf(0).equals("az5ycx"));
        d.sounds("zybc=5");
        due.isTrue("x alone: " + d.soundOf(0), d.soundOf(0).equals("a5x"));
        d.sounds("abcxyz=5");
        due.isTrue("none: " + d.soundOf(0), d.soundOf(0).equals("a5"));
    }

    // Terms 2: "(all, with a FAULT)"
    private static void withAFaultAllHaveTheirOwn() {
        Desk d = new Desk();
        d.row(0, "azb");
        String[] texts = {"", "z=1;", "z=1;b", "z=1b=2", "z=1;z=2", "zz=1", "z=", "z=1;b=2!"};
        for (String text : texts) {
            d.sounds(text);
            due.isTrue("with " + text, d.soundOf(0).equals("azb"));
        }
        d.sounds("z=1;b=2");
        due.isTrue("without a FAULT", d.soundOf(0).equals("a12"));
        d.x.type('x');
        due.isTrue("with one that comes", d.soundOf(0).equals("azb"));
    }

    private static void soundIs(String text, String name, String sound) {
        Desk d = new Desk();
        d.sounds(text);
        d.row(0, name);
        due.isTrue("sound of " + name + " by " + text + ": " + d.soundOf(0), d.soundOf(0).equals(sound));
    }

    // Terms 2: "the first letter always as its own"
    private static void theFirstLetterAsItsOwn() {
        soundIs("a=1", "a", "a");
        soundIs("a=0", "a", "a");
        soundIs("a=0", "aaa", "a");
        soundIs("a=1", "aa", "a1");
        soundIs("a=1", "ba", "b1");
        soundIs("ab=1", "abab", "a1");
    }

    // Terms 2: "then those of figure 0 are left out"
    private static void figureZeroIsLeftOut() {
        soundIs("abcdefghij=0", "abcdefghij", "a");
        soundIs("bcdefghij=0", "abcdefghij", "a");
        soundIs("a=0", "ba", "b");
        soundIs("a=0", "bab", "b");
        soundIs("b=0", "abc", "ac");
        soundIs("b=1", "abc", "a1c");
        soundIs("b=9", "abc", "a9c");
    }

    // Terms 2: "then of like signs that are neighbours one stands"
    private static void ofLikeNeighboursOneStands() {
        soundIs("", "aaaaaaaaaa", "a");
        soundIs("", "abababab", "abababab");
        soundIs("", "aabbaa", "aba");
        soundIs("bc=1", "abcb", "a1");
        soundIs("e=0;bc=1", "abece", "a1");
        soundIs("e=0", "aea", "a");
        soundIs("e=0", "aeaae", "a");
        soundIs("b=1", "abdb", "a1d1");
        soundIs("", "abcdefghij", "abcdefghij");
    }

    private static void alike(String text, String one, String other, boolean want) {
        Desk d = new Desk();
        d.sounds(text);
        d.row(0, one);
        d.row(1, other);
        due.is(one + ", " + other + " sound alike by " + text, d.x.meet(0, 1, 1), want ? 1 : 0);
    }

    // Terms 2: "Two NAMES SOUND alike, if all of it is the same."
    private static void soundAlikeIfAllIsTheSame() {
        alike("", "a", "a", true);
        alike("", "a", "aaaaaaaaaa", true);
        alike("", "a", "b", false);
        alike("", "ab", "a", false);
        alike("", "a", "ab", false);
        alike("", "abcdefghij", "abcdefghik", false);
        alike("jk=0", "abcdefghij", "abcdefghik", true);
        alike("jk=0", "abcdefghij", "bbcdefghij", false);
        alike("ab=1", "ab", "bb", false);
        alike("b=0", "ab", "a", true);
    }

    // Promise 12: "NONE: it is not so long. BAD: also i below 0."
    private static void notSoLong() {
        Desk d = new Desk();
        d.row(0, "abcdefghij");
        d.row(0, "aaaaaaaaaa");
        due.is("sign 9 of ten", d.x.sound(0, 9), 'j');
        due.is("sign 10 of ten", d.x.sound(0, 10), NONE);
        due.is("sign 0 of one", d.x.sound(1, 0), 'a');
        due.is("sign 1 of one", d.x.sound(1, 1), NONE);
        due.is("sign 9 of one", d.x.sound(1, 9), NONE);
        due.is("the most", d.x.sound(0, MOST), NONE);
        due.is("sign -1", d.x.sound(0, -1), BAD);
        due.is("the least", d.x.sound(0, LEAST), BAD);
        d.sounds("b=0;c=9");
        due.is("a figure", d.x.sound(0, 1), '9');
        d.sounds("j=0");
        due.is("sign 9, left out", d.x.sound(0, 9), NONE);
    }

    // Promise 12: "BAD"
    private static void noSuchRow() {
        Desk d = new Desk();
        due.is("sound(0, 0) without ROWS", d.x.sound(0, 0), BAD);
        d.row(0, "a");
        int[] none = {LEAST, -1, 1, 36, MOST};
        for (int row : none) {
            due.is("sound(" + row + ", 0)", d.x.sound(row, 0), BAD);
            due.is("sound(" + row + ", 10)", d.x.sound(row, 10), BAD);
        }
        for (int row = 1; row <= 35; row++) {
            d.row(0, "a");
        }
        due.is("sound(35, 0)", d.x.sound(35, 0), 'a');
        due.is("sound(36, 0)", d.x.sound(36, 0), BAD);
    }

    private static void slipsAre(String one, String other, int want) {
        Desk d = new Desk();
        d.row(0, one);
        d.row(0, other);
        due.is("slips from " + one + " to " + other, d.x.slips(0, 1), want);
        due.is("slips from " + other + " to " + one, d.x.slips(1, 0), want);
    }

    // Terms 2: SLIPS of NAMES of 1 to 10 letters
    private static void noSlipsAndAllSlips() {
        slipsAre("a", "a", 0);
        slipsAre("abcdefghij", "abcdefghij", 0);
        slipsAre("a", "b", 1);
        slipsAre("a", "ab", 1);
        slipsAre("a", "ba", 1);
        slipsAre("a", "bcdefghijk", 10);
        slipsAre("a", "bcdefghija", 9);
        slipsAre("abcde", "fghijklmno", 10);
        slipsAre("abcdefghij", "klmnopqrst", 10);
        Desk d = new Desk();
        d.row(0, "abcdefghij");
        due.is("a ROW with itself", d.x.slips(0, 0), 0);
    }

    // Terms 2: "or two neighbours put one for the other"
    private static void neighboursAtTheEnds() {
        slipsAre("ab", "ba", 1);
        slipsAre("abcdefghij", "bacdefghij", 1);
        slipsAre("abcdefghij", "abcdefghji", 1);
        slipsAre("abcdefghij", "bacdefghji", 2);
        slipsAre("abcdefghij", "badcfehgji", 5);
        slipsAre("abc", "cba", 2);
        slipsAre("aa", "aa", 0);
    }

    // Terms 2: "(no letter is changed twice: of each two neighbours that are put so nothing else is done)"
    private static void noLetterIsChangedTwice() {
        slipsAre("ca", "abc", 3);
        slipsAre("ab", "bca", 3);
        slipsAre("ab", "bxa", 3);
        slipsAre("abc", "bca", 2);
        slipsAre("abcd", "bdac", 4);
        slipsAre("ab", "xba", 2);
    }

    // Promise 13: "BAD."
    private static void slipsOfNoSuchRow() {
        Desk d = new Desk();
        due.is("slips(0, 0) without ROWS", d.x.slips(0, 0), BAD);
        d.row(0, "a");
        int[] none = {LEAST, -1, 1, 36, MOST};
        for (int row : none) {
            due.is("slips(0, " + row + ")", d.x.slips(0, row), BAD);
            due.is("slips(" + row + ", 0)", d.x.slips(row, 0), BAD);
            due.is("slips(" + row + ", " + row + ")", d.x.slips(row, row), BAD);
        }
        for (int row = 1; row <= 35; row++) {
            d.row(0, "b");
        }
        due.is("slips(0, 35)", d.x.slips(0, 35), 1);
        due.is("slips(35, 0)", d.x.slips(35, 0), 1);
        due.is("slips(34, 35)", d.x.slips(34, 35), 0);
        due.is("slips(0, 36)", d.x.slips(0, 36), BAD);
    }
}
