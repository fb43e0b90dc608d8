/** Bounds of the TAPE, the texts, their TOKENS and FAULTS (10 to 13). Above each test stands the sentence it asks. */
public final class TextBoundsTest {
    private static final String[] LINES = {"kind 9 keeps 9;", "left 1;", "on 1 feast 0 for 1;", "want 0 1 by 1 pays 1;", "dish 1;"};
    private static final int[] MOST = {6, 16, 12, 12, 12};
    private static final String KEYWORDS = "kind whole guests size age edges day left price spoil edge when or and not keeps on feast for want by pays dish";

    public static void main(String[] args) {
        twentyBytesCome();
        fourHundredBytes();
        theFirstBytesAlone();
        textsAreFive();
        linesAtMost();
        numbersOfKinds();
        numbersOfFeasts();
        numbersOfWants();
        numbersOfRecipes();
        kindsOfADish();
        toldAnewRemainsAreNone();
        toldAnewNoneIsMet();
        theLawMayBeToldAnew();
        keywordsThatBeginALine();
        keywordsOfTheLaw();
        lettersStandTogether();
        numbersHaveFourDigits();
        blanksAndSigns();
        theEnd();
        whatCannotStand();
        theFirstByItsPlace();
        atOnePlaceTheLeast();
        aPartByNought();
        openBrackets();
        closedBrackets();
        ofTheLatestText();
        Check.finish("TextBoundsTest");
    }

    private static CrustMarket two() {
        return Check.market("kind 30 keeps 3;kind 20 keeps 3;");
    }

    // "Twenty bytes come behind the TAPE, of each number the highest first: how many it has."
    private static void twentyBytesCome() {
        CrustMarket x = new CrustMarket();
        Check.due("10 twenty", x.feed(0x20206b69, 0x6e642020, 0x31206b65, 0x65707320, 0x323b2020), 20);
        Check.due("10 forty", x.feed(0x6b696e64, 0x20333820, 0x6b656570, 0x73203330, 0x3b202020), 40);
        Check.due("12 two lines", x.text(0), 2);
        Check.due("15 the first", x.kind(0, 0) * 100 + x.kind(0, 1), 102);
        Check.due("15 the second", x.kind(1, 0) * 100 + x.kind(1, 1), 3830);
        Check.due("10 a byte above 127", x.feed(0x80000000, 0, 0, 0, 0), 20);
        Check.due("12 which is no token", x.text(0), -1);
        Check.due("13 at its place", x.fault(1), 0);
    }

    // "NONE, and nothing comes, if there would be more than 400."
    private static void fourHundredBytes() {
        CrustMarket x = new CrustMarket();
        for (int i = 1; i <= 20; i++) {
            Check.due("10 fed", x.feed(0x3b202020, 0, 0, 0, 0), 20 * i);
        }
        Check.due("10 420 can't be", x.feed(0, 0, 0, 0, 0), -1);
        Check.due("11 there are 400", x.end(400), true);
        Check.due("11 to 381", x.end(381), true);
        Check.due("10 401 can't be", x.feed(0, 0, 0, 0, 0), -1);
        Check.due("11 there are 381", x.end(381), true);
        Check.due("11 to 380", x.end(380), true);
        Check.due("10 400 can be", x.feed(0, 0, 0, 0, 0), 400);
    }

    // "The TAPE has its first n bytes alone: true; false, changing nothing, if it has not so many, or n is below 0."
    private static void theFirstBytesAlone() {
        CrustMarket x = new CrustMarket();
        Check.due("11 none of none", x.end(0), true);
        Check.due("11 one of none", x.end(1), false);
        Check.due("11 below 0 of none", x.end(-1), false);
        x.feed(0x6c656674, 0x20373b20, 0x70726963, 0x6520313b, 0);
        Check.due("11 21 of 20", x.end(21), false);
        Check.due("11 20 of 20", x.end(20), true);
        Check.due("11 below 0", x.end(-1), false);
        Check.due("11 8 of 20", x.end(8), true);
        Check.due("11 9 of 8", x.end(9), false);
        Check.due("12 the first line alone", x.text(1), 1);
        Check.due("11 none are left", x.end(1), false);
        x.feed(0x3b3b3b3b, 0, 0, 0, 0);
        Check.due("11 to none", x.end(0), true);
        Check.due("10 from none", x.feed(0x6c656674, 0x20373b20, 0x20202020, 0x20202020, 0x20202020), 20);
        Check.due("12 what was cut off is gone", x.text(1), 1);
    }

    // "The TAPE, empty then, is TEXT k: how many lines. NONE: no such one (fault() tells 0)"
    private static void textsAreFive() {
        CrustMarket x = two();
        for (int k = 0; k < 5; k++) {
            Check.told(x, k, "", 0);
        }
        Check.told(x, 0, LINES[0], 1);
        for (int k = 1; k < 5; k++) {
            Check.told(x, k, LINES[k], 1);
            Check.due("12 the TAPE is empty behind text " + k, x.feed(0x20202020, 0, 0, 0, 0), 20);
            x.end(0);
        }
        for (int k : new int[] {-1, 5}) {
            Check.faulty(x, 0, "?", 1, 0);
            Check.feed(x, LINES[0]);
            Check.due("12 no text " + k, x.text(k), -1);
            Check.due("12 fault() tells 0", x.fault(0), 0);
            Check.due("13 no place", x.fault(1), -1);
        }
    }

    // "(6 at most.)", "12 lines of each at most", "3 (at its KEYWORD) the 7th KIND, the 17th line of THE LAW, the 13th one of a text"
    private static void linesAtMost() {
        for (int k = 0; k < 5; k++) {
            CrustMarket x = two();
            String most = LINES[k].repeat(MOST[k]);
            Check.told(x, k, LINES[k].repeat(MOST[k] - 1), MOST[k] - 1);
            Check.faulty(x, k, most + LINES[k], 3, most.length());
            Check.faulty(x, k, most + " \n " + LINES[k], 3, most.length() + 3);
            Check.due("12 all but one stand", x.look(k == 0 ? 0 : 9 + k), MOST[k] - 1);
            Check.told(x, k, most, MOST[k]);
            Check.due("12 all stand", x.look(k == 0 ? 0 : 9 + k), MOST[k]);
        }
        CrustMarket y = two();
        for (String word : new String[] {"left", "price", "spoil", "edge"}) {
            Check.faulty(y, 1, LINES[1].repeat(16) + word + " 1;", 3, 112);
        }
    }

    /** The NUMBER between both texts is told just within its bounds, and faulty just outside. */
    private static void bounds(CrustMarket x, int k, String ahead, int least, int greatest, String behind) {
        Check.told(x, k, ahead + least + behind, 1);
        Check.told(x, k, ahead + greatest + behind, 1);
        Check.faulty(x, k, ahead + (greatest + 1) + behind, 2, ahead.length());
        Check.faulty(x, k, ahead + 9999 + behind, 2, ahead.length());
        if (least > 0) {
            Check.faulty(x, k, ahead + (least - 1) + behind, 2, ahead.length());
        }
    }

    // "WHOLE 1 .. 99, KEEPS 1 .. 30", "2 (at the NUMBER) .. one beyond its bounds"
    private static void numbersOfKinds() {
        CrustMarket x = new CrustMarket();
        bounds(x, 0, "kind ", 1, 99, " keeps 1;");
        Check.due("15 WHOLE stays", x.kind(0, 0), 99);
        bounds(x, 0, "kind 1 keeps ", 1, 30, ";");
        Check.due("15 KEEPS stays", x.kind(0, 1), 30);
        Check.faulty(x, 0, "kind 1 keeps 1;kind 0 keeps 1;", 2, 20);
    }

    // "(DAY 0 .. 999, N guests 1 .. 20.)", "a KIND that there is not"
    private static void numbersOfFeasts() {
        CrustMarket x = two();
        bounds(x, 2, "on ", 0, 999, " feast 0 for 1;");
        bounds(x, 2, "on 0 feast ", 0, 1, " for 1;");
        bounds(x, 2, "on 0 feast 0 for ", 1, 20, ";");
        CrustMarket none = new CrustMarket();
        Check.faulty(none, 2, "on 0 feast 0 for 1;", 2, 11);
        CrustMarket six = Check.market(LINES[0].repeat(6));
        bounds(six, 2, "on 0 feast ", 0, 5, " for 1;");
    }

    // "(N 1 .. 99, pays 0 .. 999", "a KIND that there is not"; by is a DAY, 0 .. 999 too
    private static void numbersOfWants() {
        CrustMarket x = two();
        bounds(x, 3, "want ", 0, 1, " 1 by 0 pays 0;");
        Check.due("17 KIND stays", x.want(0, 0), 1);
        bounds(x, 3, "want 0 ", 1, 99, " by 0 pays 0;");
        Check.due("17 SIZE stays", x.want(0, 1), 99);
        bounds(x, 3, "want 0 1 by ", 0, 999, " pays 0;");
        Check.due("17 by stays", x.want(0, 2), 999);
        bounds(x, 3, "want 0 1 by 0 pays ", 0, 999, ";");
        Check.due("17 pays stays", x.want(0, 3), 999);
        Check.faulty(new CrustMarket(), 3, "want 0 1 by 0 pays 0;", 2, 5);
        bounds(Check.market(LINES[0].repeat(6)), 3, "want ", 0, 5, " 1 by 0 pays 0;");
    }

    // "(worth 1 .. 99; of KINDS sizes 1 .. 99"
    private static void numbersOfRecipes() {
        CrustMarket x = two();
        bounds(x, 4, "dish ", 1, 99, ";");
        Check.due("29 worth stays", x.cooks(0), 99);
        bounds(x, 4, "dish 1 ", 0, 1, " 1;");
        bounds(x, 4, "dish 1 0 ", 1, 99, ";");
        bounds(x, 4, "dish 1 1 1 0 ", 1, 99, ";");
        Check.faulty(new CrustMarket(), 4, "dish 1 0 1;", 2, 7);
        bounds(Check.market(LINES[0].repeat(6)), 4, "dish 1 ", 0, 5, " 1;");
    }

    // "each once, 4 at most", "(at the NUMBER) .. a KIND .. that a dish has already", "3 .. (at the KIND) a dish's 5th"
    private static void kindsOfADish() {
        CrustMarket x = Check.market(LINES[0].repeat(6));
        Check.told(x, 4, "dish 1;", 1);
        Check.told(x, 4, "dish 1 5 1 4 1 3 1;", 1);
        Check.told(x, 4, "dish 1 5 1 4 1 3 1 2 1;", 1);
        Check.faulty(x, 4, "dish 1 5 1 4 1 3 1 2 1 1 1;", 3, 23);
        Check.faulty(x, 4, "dish 1 5 1 5 1;", 2, 11);
        Check.faulty(x, 4, "dish 1 0 1 1 1 2 1 0 1;", 2, 19);
        Check.told(x, 4, "dish 1 0 1;dish 1 0 1;", 2);
        Check.told(x, 4, "dish 1 0 1 1 1 2 1 3 1;dish 1 0 1 1 1 2 1 3 1;", 2);
        // The second NUMBER of each part is a size, and may well be that of a KIND.
        Check.told(x, 4, "dish 1 0 2 1 2 2 2;", 1);
    }

    // "Told anew REMAINS are none; FEASTS, WANTS, RECIPES are empty."
    private static void toldAnewRemainsAreNone() {
        String[] kinds = {LINES[0], "", LINES[0].repeat(6)};
        for (String anew : kinds) {
            CrustMarket x = Check.market(LINES[0], LINES[1], LINES[2], LINES[3], LINES[4]);
            x.feast(0, 1);
            x.piece(1, 1);
            x.test(1, 1);
            x.limit(1);
            x.trade(0, 1, 1, 1);
            x.set(0, 777);
            x.set(1, 1);
            x.set(2, 2);
            x.state(3);
            Check.told(x, 0, anew, anew.length() / 15);
            Check.due("12 REMAINS", x.look(2), 0);
            Check.due("12 FEASTS, WANTS, RECIPES", x.look(11) + x.look(12) + x.look(13), 0);
            Check.due("12 COIN stays", x.look(3), 777);
            Check.due("12 EATEN stays", x.look(5), 1);
            Check.due("12 INSPECT, DOGS, STATE stay", x.look(6) * 100 + x.look(7) * 10 + x.look(9), 123);
            Check.due("12 THE BOOK stays", x.look(8), 1);
            Check.due("12 THE LAW stays", x.look(10), 1);
            Check.due("12 PIECES, TESTS, LIMITS, TRADES stay", x.look(15) + x.look(16) + x.look(17) + x.look(18), 4);
        }
        CrustMarket y = Check.market(LINES[0], LINES[1], LINES[2], LINES[3], LINES[4]);
        y.feast(0, 1);
        Check.faulty(y, 0, "kind 9 keeps 9;kind 9 keeps", 1, 27);
        Check.due("12 with a FAULT all stays", y.look(2) + y.look(11) + y.look(12) + y.look(13), 4);
        Check.told(y, 1, "", 0);
        Check.told(y, 2, "", 0);
        Check.told(y, 4, "", 0);
        Check.due("12 REMAINS, WANTS stay by other texts", y.look(2) + y.look(12), 2);
    }

    // "told anew none is MET"
    private static void toldAnewNoneIsMet() {
        CrustMarket x = Check.market(LINES[0], "", "", "want 0 1 by 5 pays 9;want 0 1 by 5 pays 9;");
        x.feast(0, 1);
        x.days(1);
        Check.due("17 one is MET", x.want(0, 4) * 10 + x.want(1, 4), 10);
        Check.faulty(x, 3, "want 0 1 by 5 pays 1000;", 2, 19);
        Check.due("17 with a FAULT it stays MET", x.want(0, 4), 1);
        Check.told(x, 3, "want 0 1 by 5 pays 9;want 0 1 by 5 pays 9;", 2);
        Check.due("17 told anew none is", x.want(0, 4) + x.want(1, 4), 0);
        x.feast(0, 1);
        Check.due("9 and may be MET again", x.days(1), 1);
    }

    // A text takes the place of the one before it, and an empty one of all its lines.
    private static void theLawMayBeToldAnew() {
        CrustMarket x = two();
        Check.told(x, 1, "left 5;edge 4;", 2);
        Check.told(x, 1, "left 6;", 1);
        Check.due("16 the later", x.left(0, 1, false), 6);
        Check.due("16 no line for edge", x.left(0, 1, true), 3);
        Check.told(x, 1, " \n ", 0);
        Check.due("16 no line for left", x.left(0, 1, false), 25);
    }

    // "letters as many as stand together are KEYWORDS (those told here for that text) or none"
    private static void keywordsThatBeginALine() {
        String[] first = {"kind", "left price spoil edge", "on", "want", "dish"};
        for (int k = 0; k < 5; k++) {
            CrustMarket x = two();
            for (String word : KEYWORDS.split(" ")) {
                boolean begins = (" " + first[k] + " ").contains(" " + word + " ");
                Check.faulty(x, k, word, 1, begins ? word.length() : 0);
            }
        }
    }

    private static void keywordsOfTheLaw() {
        CrustMarket x = two();
        String units = " kind whole guests size age edges day ";
        for (String word : KEYWORDS.split(" ")) {
            if (units.contains(" " + word + " ")) {
                Check.told(x, 1, "left " + word + ";", 1);
                Check.told(x, 1, "left 1+" + word + "*" + word + " when " + word + "=1;", 1);
            } else {
                Check.faulty(x, 1, "left " + word + ";", 1, 5);
                Check.faulty(x, 1, "left 1+" + word + ";", 1, 7);
            }
            Check.faulty(x, 1, "left 1/" + word + ";", 1, 7);
        }
        for (String word : new String[] {"keeps", "on", "feast", "for", "want", "by", "pays", "dish"}) {
            Check.faulty(x, 1, "left 1 " + word + " 1=1;", 1, 7);
        }
    }

    private static void lettersStandTogether() {
        CrustMarket x = new CrustMarket();
        Check.told(x, 0, "kind1keeps1;kind2keeps2;", 2);
        Check.faulty(x, 0, "kindkeeps", 1, 0);
        Check.faulty(x, 0, "kin d 1 keeps 1;", 1, 0);
        Check.faulty(x, 0, "kind 1 keepsx 1;", 1, 7);
        Check.faulty(x, 0, "kind 1 keep 1;", 1, 7);
        Check.faulty(x, 0, "kind 1 kEeps 1;", 1, 7);
        Check.faulty(x, 0, "KIND 1 keeps 1;", 1, 0);
        Check.faulty(x, 0, "kind 1 keepsA 1;", 1, 7);
        Check.faulty(x, 0, "kind 1 keepsZ 1;", 1, 7);
        Check.told(x, 1, "left 1when 1=1and 2=2or not(3=3);", 1);
        Check.faulty(x, 1, "left 1 when 1=1 notnot 1=1;", 1, 16);
        Check.faulty(x, 1, "left 1 when notnot 1=1;", 1, 12);
    }

    // "digits as many as stand together NUMBERS of 1 to 4 digits or none"
    private static void numbersHaveFourDigits() {
        CrustMarket x = two();
        Check.told(x, 1, "left 0;left 9999;left 0000;left 0009;", 4);
        Check.faulty(x, 1, "left 10000;", 1, 5);
        Check.faulty(x, 1, "left 00001;", 1, 5);
        Check.faulty(x, 1, "left 1/00000;", 1, 7);
        Check.faulty(x, 1, "left 1234567890123456789;", 1, 5);
        Check.told(x, 0, "kind 0099 keeps 0030;", 1);
        Check.due("15 0099 is 99", x.kind(0, 0), 99);
        Check.faulty(x, 0, "kind 00099 keeps 30;", 1, 5);
        Check.faulty(x, 0, "kind 9 9 keeps 30;", 1, 7);
        Check.faulty(x, 2, "on 0 feast 00000 for 1;", 1, 11);
        Check.faulty(x, 3, "want 0 1 by 0 pays 00000;", 1, 19);
        Check.faulty(x, 4, "dish 00001;", 1, 5);
    }

    // "; + - * / ( ) < = > . Blanks (32, 10) between."
    private static void blanksAndSigns() {
        for (int sign = 0; sign < 256; sign++) {
            CrustMarket x = new CrustMarket();
            String text = "kind 1 keeps 1;" + (char) sign;
            if (sign == 32 || sign == 10) {
                Check.told(x, 0, text, 1);
                Check.told(x, 0, (char) sign + text, 1);
                Check.told(x, 1, "left" + (char) sign + "1" + (char) sign + ";", 1);
            } else {
                Check.faulty(x, 0, text, 1, 15);
            }
        }
        CrustMarket x = two();
        Check.told(x, 1, "left 1+2-3*4/5 when not(1<2)or 1=2 or 2>1;", 1);
        Check.told(x, 1, "left\n1\n+\n2\n-\n3\n*\n4\n/\n5\nwhen\nnot\n(\n1\n<\n2\n)\nor\n1\n=\n2\n;\n", 1);
        for (String sign : new String[] {"<=", "==", "!", "&", ",", ":", "%", "[", "."}) {
            Check.faulty(x, 1, "left 1 when 1" + sign + "2;", 1, sign.length() == 2 ? 14 : 13);
        }
    }

    // "(the end: the text's length)"
    private static void theEnd() {
        String[] texts = {"kind 9 keeps 9 ;", "left 1 + 2 * 3 / 4 when not ( 1 < 2 ) and 3 = 3 or 4 > 4 ;", "on 1 feast 0 for 1 ;",
            "want 0 1 by 1 pays 1 ;", "dish 1 0 1 1 2 ;"};
        for (int k = 0; k < 5; k++) {
            String text = "";
            for (String token : texts[k].split(" ")) {
                if (!text.isEmpty()) {
                    CrustMarket x = two();
                    Check.faulty(x, k, text, 1, text.length());
                    Check.faulty(x, k, " " + text + " \n ", 1, text.length() + 4);
                    Check.faulty(x, k, LINES[k] + text, 1, LINES[k].length() + text.length());
                }
                text += text.isEmpty() ? token : " " + token;
            }
            Check.told(two(), k, text, 1);
        }
        CrustMarket x = two();
        Check.faulty(x, 1, "left 1" + "+1".repeat(197), 1, 400);
        Check.faulty(x, 1, "left" + " ".repeat(396), 1, 400);
        Check.told(x, 1, "left 1" + "+1".repeat(196) + " ;", 1);
        Check.told(x, 1, " ".repeat(400), 0);
    }

    // "1 what can't stand there": each token of a line is left out, or stands twice.
    private static void whatCannotStand() {
        String[] lines = {"kind 9 keeps 8 ;", "on 7 feast 1 for 6 ;", "want 1 8 by 7 pays 6 ;"};
        int[] texts = {0, 2, 3};
        for (int i = 0; i < lines.length; i++) {
            String[] tokens = lines[i].split(" ");
            int place = 0;
            for (int j = 0; j < tokens.length; j++) {
                String ahead = lines[i].substring(0, place);
                int next = place + tokens[j].length() + 1;
                String behind = lines[i].substring(Math.min(lines[i].length(), next));
                // Two NUMBERS stand together in a WANT: the second one is read for the first, and what it was is missed later.
                boolean firstOfTwo = texts[i] == 3 && j == 1;
                if (!firstOfTwo) {
                    Check.faulty(two(), texts[i], ahead + behind, 1, place);
                }
                Check.faulty(two(), texts[i], ahead + tokens[j] + " " + tokens[j] + " " + behind, 1, firstOfTwo ? next + 2 : next);
                place = next;
            }
        }
        CrustMarket x = two();
        Check.faulty(x, 3, "want 8 by 7 pays 6 ;", 2, 5);
        Check.faulty(x, 4, "dish ;", 1, 5);
        Check.faulty(x, 4, "dish 1 0 ;", 1, 9);
        Check.faulty(x, 4, "dish 1 0 1 1 ;", 1, 13);
        Check.faulty(x, 4, "dish 1 ; ;", 1, 9);
        Check.faulty(x, 4, "dish dish 1 ;", 1, 5);
    }

    // "FAULTS, the first by its place"
    private static void theFirstByItsPlace() {
        CrustMarket x = two();
        Check.faulty(x, 0, "kind 100 keeps 31;", 2, 5);
        Check.faulty(x, 0, "kind 100", 2, 5);
        Check.faulty(x, 0, "kind 99 keeps 31?", 2, 14);
        Check.faulty(x, 0, "kind 99 keep 31;", 1, 8);
        Check.faulty(x, 0, "kind 99 keeps 30;kind 0 keeps 1", 2, 22);
        Check.faulty(x, 1, "left 1/0", 2, 7);
        Check.faulty(x, 1, "left 1 left 1/0;", 1, 7);
        Check.faulty(x, 1, LINES[1].repeat(16) + "left 1/0;", 3, 112);
        Check.faulty(x, 1, LINES[1].repeat(15) + "left 1/0;left 1;", 2, 112);
        Check.faulty(x, 2, LINES[2].repeat(12) + "on 1000", 3, 228);
        Check.faulty(x, 2, LINES[2].repeat(11) + "on 1000 feast 0 for 1;on", 2, 212);
        Check.faulty(x, 3, LINES[3].repeat(12) + "want", 3, 252);
        Check.faulty(x, 4, LINES[4].repeat(12) + "dish 0", 3, 84);
        Check.faulty(x, 4, "dish 1 0 100 0 1;", 2, 9);
        Check.faulty(x, 4, "dish 1 0 1 0", 2, 11);
        Check.faulty(x, 4, "dish 100 2 100;", 2, 5);
    }

    // "at one place the least"
    private static void atOnePlaceTheLeast() {
        CrustMarket x = Check.market(LINES[0].repeat(5));
        String four = "dish 1 0 1 1 1 2 1 3 1 ";
        Check.faulty(x, 4, four + "4 1;", 3, 23);
        Check.faulty(x, 4, four + "4", 3, 23);
        Check.faulty(x, 4, four + "5 1;", 2, 23);
        Check.faulty(x, 4, four + "9999 1;", 2, 23);
        Check.faulty(x, 4, four + "0 1;", 2, 23);
        Check.faulty(x, 4, four + "00004 1;", 1, 23);
        Check.faulty(x, 4, four + "kind 1;", 1, 23);
        for (int k = 0; k < 5; k++) {
            String most = LINES[k].repeat(MOST[k]);
            Check.faulty(x, k, most + "x", 1, most.length());
            Check.faulty(x, k, most + ";", 1, most.length());
            Check.faulty(x, k, most + "9", 1, most.length());
        }
    }

    // "2 (at the NUMBER) a part by 0"
    private static void aPartByNought() {
        CrustMarket x = two();
        Check.told(x, 1, "left 1/1;", 1);
        Check.told(x, 1, "left 0/9999;", 1);
        Check.faulty(x, 1, "left 1/0;", 2, 7);
        Check.faulty(x, 1, "left 1 / 00;", 2, 9);
        Check.faulty(x, 1, "left 1/0000;", 2, 7);
        Check.faulty(x, 1, "left size*2/3/0+1;", 2, 14);
        Check.faulty(x, 1, "left 1 when 1/0=1;", 2, 14);
        Check.faulty(x, 1, "left 1 when 1=1/0;", 2, 16);
        Check.told(x, 1, "left 1*0;", 1);
    }

    // "3 .. (at it) the 9th ( or not that is open"
    private static void openBrackets() {
        CrustMarket x = two();
        for (int nots = 0; nots <= 8; nots++) {
            String eight = "left 1 when " + "not ".repeat(nots) + "(".repeat(8 - nots);
            String closed = "1=1" + ")".repeat(8 - nots) + ";";
            Check.told(x, 1, eight + closed, 1);
            if (nots < 8) {
                Check.faulty(x, 1, eight + "(1=1)" + closed, 3, eight.length());
            }
            Check.faulty(x, 1, eight + "not " + closed, 3, eight.length());
            Check.faulty(x, 1, eight + "not", 3, eight.length());
            Check.faulty(x, 1, eight + "(", 3, eight.length());
            Check.faulty(x, 1, eight, 1, eight.length());
            Check.faulty(x, 1, eight + ")", 1, eight.length());
        }
        String eight = "left 1 when ((((((((1=1 and ";
        Check.faulty(x, 1, eight + "(1=1", 3, eight.length());
        Check.faulty(x, 1, eight + "not 1=1", 3, eight.length());
        Check.told(x, 1, eight + "1=1))))))));", 1);
    }

    private static void closedBrackets() {
        CrustMarket x = two();
        Check.told(x, 1, "left 1 when " + "(1=1)and ".repeat(20) + "1=1;", 1);
        Check.told(x, 1, "left 1 when " + "not 1=1 or ".repeat(20) + "1=1;", 1);
        String eight = "((((((((1=1))))))))";
        Check.told(x, 1, "left 1 when " + eight + "and" + eight + "or" + eight + ";", 1);
        Check.told(x, 1, "left 1 when " + eight + ";left 1 when " + eight + ";", 2);
        Check.told(x, 1, "left 1 when not not not not not not not not 1=1 and not not not not not not not not 1=1;", 1);
        // Seven stay open, so one more may be opened again and again, but no two.
        Check.told(x, 1, "left 1 when (((((((" + "(1=1)and ".repeat(5) + "not 1=1)))))));", 1);
        Check.faulty(x, 1, "left 1 when (((((((" + "(1=1)and ".repeat(5) + "not not 1=1)))))));", 3, 68);
        Check.faulty(x, 1, "left 1 when (1=1));", 1, 17);
        Check.faulty(x, 1, "left 1 when ((1=1);", 1, 18);
        Check.faulty(x, 1, "left 1 when ();", 1, 13);
    }

    // "Of the latest text(): what 0 the FAULT (0 without one), 1 its place (NONE). NONE for another what."
    private static void ofTheLatestText() {
        CrustMarket x = two();
        Check.due("13 without one", x.fault(0), 0);
        Check.due("13 no place", x.fault(1), -1);
        Check.faulty(x, 0, "kind 0", 2, 5);
        x.feed(0, 0, 0, 0, 0);
        x.end(0);
        x.feast(0, 1);
        x.days(1);
        x.undo();
        Check.due("13 it stays", x.fault(0) * 10 + x.fault(1), 25);
        Check.due("13 what 2", x.fault(2), -1);
        Check.due("13 what -1", x.fault(-1), -1);
        Check.faulty(x, 1, "left", 1, 4);
        Check.faulty(x, 1, "?", 1, 0);
        Check.told(x, 1, "left 1;", 1);
    }
}
