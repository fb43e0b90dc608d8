/** Promises 10 (feed), 11 (end), 12 (text), 13 (fault), and the texts and FAULTS of section 2. */
public final class TextsTest {
    public static void main(String[] args) {
        theTapeIsFed();
        theTapeIsEnded();
        textsAreTold();
        tokens();
        faultsAreTold();
        faultsOfKinds();
        faultsOfLaw();
        depthOfLaw();
        faultsOfFeastsAndWants();
        faultsOfDishes();
        theLongestTexts();
        lawIsWorkedOut();
        Check.finish("TextsTest");
    }

    private static CrustMarket market() {
        CrustMarket x = new CrustMarket();
        Check.tell(x, 0, "kind 30 keeps 3;kind 20 keeps 3;");
        return x;
    }

    private static String times(int n, String text) {
        return text.repeat(n);
    }

    private static void theTapeIsFed() {
        CrustMarket x = new CrustMarket();
        for (int i = 1; i <= 20; i++) {
            Check.due("10 fed", x.feed(0x20202020, 0x0a0a0a0a, 0x20202020, 0x20202020, 0x20202020), 20 * i);
        }
        Check.due("10 full", x.feed(0, 0, 0, 0, 0), -1);
        Check.due("10 nothing came", x.end(400), true);
        Check.due("10 no more than that", x.end(401), false);
        Check.due("10 cut", x.end(381), true);
        Check.due("10 still too many", x.feed(0, 0, 0, 0, 0), -1);
        Check.due("10 cut more", x.end(380), true);
        Check.due("10 room again", x.feed(0x20202020, 0x20202020, 0x20202020, 0x20202020, 0x20202020), 400);
        Check.due("10 four hundred blanks", x.text(1), 0);
        // "kind 12 keeps 3;" with the highest byte of each number first.
        Check.due("10 bytes", x.feed(0x6b696e64, 0x20313220, 0x6b656570, 0x7320333b, 0xffffffff), 20);
        Check.due("10 to sixteen", x.end(16), true);
        Check.due("10 told", x.text(0), 1);
        Check.due("10 whole", x.kind(0, 0), 12);
    }

    private static void theTapeIsEnded() {
        CrustMarket x = new CrustMarket();
        Check.due("11 empty", x.end(0), true);
        Check.due("11 not so many", x.end(1), false);
        x.feed(0, 0, 0, 0, 0);
        Check.due("11 below 0", x.end(-1), false);
        Check.due("11 beyond", x.end(21), false);
        Check.due("11 nothing changed", x.feed(0, 0, 0, 0, 0), 40);
        Check.due("11 all", x.end(40), true);
        Check.due("11 some", x.end(3), true);
        Check.due("11 behind the rest", x.feed(0, 0, 0, 0, 0), 23);
        Check.due("11 none", x.end(0), true);
        Check.due("11 from the start", x.feed(0, 0, 0, 0, 0), 20);
    }

    private static void textsAreTold() {
        CrustMarket x = market();
        Check.due("12 kinds", x.look(0), 2);
        Check.due("12 the tape is empty then", x.end(1), false);
        Check.told(x, 2, "on 999 feast 1 for 20;on 0 feast 0 for 1;", 2);
        Check.told(x, 3, "want 0 99 by 999 pays 999;", 1);
        Check.told(x, 4, "dish 99 0 99 1 1;dish 1;", 2);
        Check.told(x, 1, "left 1;", 1);
        x.feast(0, 1);
        x.set(0, 7);
        Check.faulty(x, 0, "kind 1 keeps 1;kind", 1, 19);
        Check.due("12 the tape is empty behind a fault", x.end(1), false);
        Check.due("12 stays as it was", x.look(0), 2);
        Check.due("12 stays, remains too", x.look(2), 1);
        Check.feed(x, "kind");
        Check.due("12 no text 5", x.text(5), -1);
        Check.due("12 its fault", x.fault(0), 0);
        Check.due("12 its place", x.fault(1), -1);
        Check.due("12 the tape is empty behind no text", x.end(1), false);
        Check.due("12 no text -1", x.text(-1), -1);
        Check.due("12 feasts stay", x.look(11), 2);
        Check.told(x, 0, "kind 99 keeps 30;", 1);
        Check.due("12 remains are none", x.look(2), 0);
        Check.due("12 feasts are empty", x.look(11), 0);
        Check.due("12 wants are empty", x.look(12), 0);
        Check.due("12 recipes are empty", x.look(13), 0);
        Check.due("12 the law stays", x.look(10), 1);
        Check.due("12 the coin stays", x.look(3), 7);
        Check.due("12 the book stays", x.look(8), 1);
        Check.told(x, 1, "", 0);
        Check.due("12 an empty law", x.look(10), 0);
        Check.told(x, 0, "", 0);
        Check.due("12 no kinds", x.look(0), 0);
    }

    private static void tokens() {
        CrustMarket x = new CrustMarket();
        Check.told(x, 0, "kind1keeps2;", 1);
        Check.told(x, 0, " \n kind 0099\nkeeps   0030 ; \n", 1);
        Check.due("12 leading noughts", x.kind(0, 0), 99);
        Check.faulty(x, 0, "kinds 1 keeps 2;", 1, 0);
        Check.faulty(x, 0, "kindX 1 keeps 2;", 1, 0);
        Check.faulty(x, 0, "Kind 1 keeps 2;", 1, 0);
        Check.faulty(x, 0, "kind 00001 keeps 2;", 1, 5);
        Check.faulty(x, 0, "kind\t1 keeps 2;", 1, 4);
        Check.faulty(x, 0, "kind 1 keeps 2." , 1, 14);
        Check.faulty(x, 0, "kind 1 keeps 2;" + (char) 233, 1, 15);
        Check.faulty(x, 0, "kind 1 keeps 2;" + (char) 0, 1, 15);
        Check.faulty(x, 0, "kind 1 keeps 2;;", 1, 15);
        Check.faulty(x, 0, "kind 1 keeps 2  ", 1, 16);
        Check.faulty(x, 1, "keeps 1;", 1, 0);
        Check.faulty(x, 1, "left 1+;", 1, 7);
        Check.faulty(x, 1, "left - 1;", 1, 5);
    }

    private static void faultsAreTold() {
        CrustMarket x = new CrustMarket();
        Check.due("13 before", x.fault(0), 0);
        Check.due("13 before, place", x.fault(1), -1);
        Check.due("13 another what", x.fault(2), -1);
        Check.due("13 what below 0", x.fault(-1), -1);
        Check.faulty(x, 0, "kind 0 keeps 0;", 2, 5);
        Check.due("13 again", x.fault(0), 2);
        Check.due("13 another what of it", x.fault(2), -1);
        x.image(true);
        Check.told(x, 0, "kind 1 keeps 1;", 1);
        x.image(false);
        Check.due("13 not of the image", x.fault(0), 0);
    }

    private static void faultsOfKinds() {
        CrustMarket x = new CrustMarket();
        Check.told(x, 0, times(6, "kind 1 keeps 1;"), 6);
        Check.faulty(x, 0, times(7, "kind 1 keeps 1;"), 3, 90);
        Check.faulty(x, 0, times(6, "kind 1 keeps 1;") + "keeps", 1, 90);
        Check.faulty(x, 0, "kind 100 keeps 1;", 2, 5);
        Check.faulty(x, 0, "kind 99 keeps 31;", 2, 14);
        Check.faulty(x, 0, "kind 99 keeps 30", 1, 16);
        Check.faulty(x, 0, "kind 99 30;", 1, 8);
        Check.faulty(x, 0, "kind keeps 30;", 1, 5);
        Check.faulty(x, 0, "99 keeps 30;", 1, 0);
    }

    private static void faultsOfLaw() {
        CrustMarket x = market();
        Check.told(x, 1, times(16, "left 1;"), 16);
        Check.faulty(x, 1, times(17, "left 1;"), 3, 112);
        Check.faulty(x, 1, times(16, "left 1;") + "x", 1, 112);
        Check.told(x, 1, "left 9999 * 9999 / 9999 - kind + whole * guests * size / 1 when age = edges or day < 1 and 1 > 0;", 1);
        Check.faulty(x, 1, "left 1/0;", 2, 7);
        Check.faulty(x, 1, "left 1/0000;", 2, 7);
        Check.faulty(x, 1, "left 1/guests;", 1, 7);
        Check.faulty(x, 1, "left 1/;", 1, 7);
        Check.faulty(x, 1, "left (1);", 1, 5);
        Check.faulty(x, 1, "left when 1=1;", 1, 5);
        Check.faulty(x, 1, "left 1 when;", 1, 11);
        Check.faulty(x, 1, "left 1 when 1;", 1, 13);
        Check.faulty(x, 1, "left 1 when 1=1=1;", 1, 15);
        Check.faulty(x, 1, "left 1 when 1=;", 1, 14);
        Check.faulty(x, 1, "left 1 when (1=1;", 1, 16);
        Check.faulty(x, 1, "left 1 when 1=1);", 1, 15);
        Check.faulty(x, 1, "left 1 when 1=1 and;", 1, 19);
        Check.faulty(x, 1, "left 1 when 1=1 or or;", 1, 19);
        Check.faulty(x, 1, "left 1 when not;", 1, 15);
        Check.faulty(x, 1, "left 1 when (1)=1;", 1, 14);
        Check.faulty(x, 1, "left 1 when 1=1 when 1=1;", 1, 16);
        Check.faulty(x, 1, "left left;", 1, 5);
        Check.faulty(x, 1, "guests 1;", 1, 0);
        Check.faulty(x, 1, "left 1 when 1=1/0 and 1;", 2, 16);
        Check.due("12 the law stays", x.look(10), 1);
    }

    private static void depthOfLaw() {
        CrustMarket x = market();
        Check.told(x, 1, "left 1 when " + times(8, "(") + "1=1" + times(8, ")") + ";", 1);
        Check.told(x, 1, "left 1 when " + times(4, "not(") + "1=1" + times(4, ")") + ";", 1);
        Check.faulty(x, 1, "left 1 when " + times(9, "(") + "1=1" + times(9, ")") + ";", 3, 20);
        Check.faulty(x, 1, "left 1 when " + times(4, "not(") + "not 1=1" + times(4, ")") + ";", 3, 28);
        Check.told(x, 1, "left 1 when " + times(7, "(") + "not 1=1 or not 1=1 and (2=2)" + times(7, ")") + " or (1=1);", 1);
        Check.told(x, 1, "left 1 when " + times(12, "not 1=1 and ") + "(1=1);", 1);
        Check.faulty(x, 1, "left 1 when " + times(8, "not ") + "x", 1, 44);
    }

    private static void faultsOfFeastsAndWants() {
        CrustMarket x = market();
        Check.told(x, 2, times(12, "on 0 feast 0 for 1;"), 12);
        Check.faulty(x, 2, times(13, "on 0 feast 0 for 1;"), 3, 228);
        Check.faulty(x, 2, "on 1000 feast 0 for 1;", 2, 3);
        Check.faulty(x, 2, "on 0 feast 2 for 1;", 2, 11);
        Check.faulty(x, 2, "on 0 feast 0 for 0;", 2, 17);
        Check.faulty(x, 2, "on 0 feast 0 for 21;", 2, 17);
        Check.faulty(x, 2, "on 0 kind 0 for 1;", 1, 5);
        Check.due("12 feasts stay", x.look(11), 12);
        Check.told(x, 3, times(12, "want 0 1 by 0 pays 0;"), 12);
        Check.faulty(x, 3, times(13, "want 0 1 by 0 pays 0;"), 3, 252);
        Check.faulty(x, 3, "want 2 1 by 0 pays 0;", 2, 5);
        Check.faulty(x, 3, "want 1 0 by 0 pays 0;", 2, 7);
        Check.faulty(x, 3, "want 1 100 by 0 pays 0;", 2, 7);
        Check.faulty(x, 3, "want 1 99 by 1000 pays 0;", 2, 13);
        Check.faulty(x, 3, "want 1 99 by 999 pays 1000;", 2, 22);
        Check.faulty(x, 3, "want 1 by 999 pays 1000;", 1, 7);
        Check.due("12 wants stay", x.look(12), 12);
        CrustMarket none = new CrustMarket();
        Check.faulty(none, 2, "on 0 feast 0 for 1;", 2, 11);
        Check.faulty(none, 3, "want 0 1 by 0 pays 0;", 2, 5);
        Check.faulty(none, 4, "dish 1 0 1;", 2, 7);
        Check.told(none, 4, "dish 1;", 1);
    }

    private static void faultsOfDishes() {
        CrustMarket x = new CrustMarket();
        Check.tell(x, 0, times(6, "kind 9 keeps 9;"));
        Check.told(x, 4, times(12, "dish 1 0 1;"), 12);
        Check.faulty(x, 4, times(13, "dish 1 0 1;"), 3, 132);
        Check.told(x, 4, "dish 99 5 99 0 1 3 2 1 4;", 1);
        Check.faulty(x, 4, "dish 9 5 1 0 1 3 2 1 4 2 1;", 3, 23);
        Check.faulty(x, 4, "dish 9 5 1 0 1 3 2 1 4 6 1;", 2, 23);
        Check.faulty(x, 4, "dish 9 5 1 0 1 3 2 1 4 0 1;", 2, 23);
        Check.faulty(x, 4, "dish 9 5 1 5 1;", 2, 11);
        Check.faulty(x, 4, "dish 9 6 1;", 2, 7);
        Check.faulty(x, 4, "dish 0 5 1;", 2, 5);
        Check.faulty(x, 4, "dish 100 5 1;", 2, 5);
        Check.faulty(x, 4, "dish 9 5 0;", 2, 9);
        Check.faulty(x, 4, "dish 9 5 100;", 2, 9);
        Check.faulty(x, 4, "dish 9 5;", 1, 8);
        Check.faulty(x, 4, "dish;", 1, 4);
        Check.due("12 recipes stay", x.look(13), 1);
    }

    private static void theLongestTexts() {
        CrustMarket x = market();
        Check.told(x, 1, "left 1" + times(196, "+1") + "; ", 1);
        Check.due("12 two hundred less three, held to whole less 1", x.left(0, 1, false), 29);
        Check.told(x, 1, "left 0" + times(190, "+1") + "-180;", 1);
        Check.due("12 every term counts", x.left(0, 1, false), 10);
        Check.faulty(x, 1, "left 1" + times(197, "+1"), 1, 400);
        Check.faulty(x, 1, "left 1" + times(196, "+1") + "+;", 1, 399);
        Check.faulty(x, 2, times(400, ";"), 1, 0);
        Check.told(x, 2, "on 1 feast 1 for 1;" + times(381, " "), 1);
    }

    private static void law(String law, int due) {
        CrustMarket x = new CrustMarket();
        Check.tell(x, 0, "kind 90 keeps 30;kind 80 keeps 30;");
        Check.tell(x, 1, law);
        Check.due("12 law '" + law + "'", x.left(1, 7, false), due);
    }

    private static void lawIsWorkedOut() {
        law("left 1+2*3;", 7);
        law("left 20-5-3;", 12);
        law("left 7/2*2;", 6);
        law("left 50-7*guests/2+kind;", 27);
        law("left 70-(1);", 45);
        law("left 9-10/3*3+0-9;", 0);
        law("left (0);", 45);
        // -7 / 2 goes towards 0: -3.
        law("left 10+guests*0-7/2;", 7);
        law("left guests*10-77/2*1;", 32);
        law("left 5 when guests-9/1=0;left 6;", 6);
        law("left kind-8*1/2+9;", 6);
        // 9999 * 9999 * 9999 wraps to -1027349969.
        law("left 9999*9999*9999/9999/999+110;", 8);
        law("left 1 when 9999*9999*9999<0;left 2;", 1);
        law("left 1 when guests<7;left 2 when guests>7;left 3 when guests=7;left 4;", 3);
        law("left 1 when 1=1 or 1=1 and 1=2;left 2;", 1);
        law("left 1 when (1=1 or 1=1) and 1=2;left 2;", 2);
        law("left 1 when not 1=2 and 1=2;left 2;", 2);
        law("left 1 when not (1=2 and 1=2);left 2;", 1);
        law("left 1 when not not 1=1;left 2;", 1);
        law("left 1 when 1=2 and 1=1 or 1=1;left 2;", 1);
        law("left 1 when 1=1 and 1=2 or 2=1 and 1=1;left 2;", 2);
        law("left 1 when not 1=1;left 2;", 2);
        law("left 1 when not not 1=2;left 2;", 2);
        law("left 1 when 1<2 and 1=1 and 2>1;left 2;", 1);
        law("left 1 when not 1<2;left 2;", 2);
        law("left 7/1;", 7);
        law("price 1;edge 2;spoil 3;", 45);
        law("left 1 when 1=2;", 45);
        law("left size+age+edges+day+whole;", 79);
        law("left 0;left 5;", 0);
    }
}
