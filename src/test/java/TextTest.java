/** The text's grammar, its faults and their places, and what its laws tell. */
final class TextTest {
    public static void main(String[] args) {
        tokens();
        syntax();
        room();
        laterFaults();
        ofSeveralTheLast();
        whatALawTells();
        whatALawLooksAt();
        lots();
        Check.end();
    }

    private static String many(String text, int times) {
        StringBuilder s = new StringBuilder();
        for (int i = 0; i < times; i++) s.append(text);
        return s.toString();
    }

    private static void tokens() {
        Check.due("blanks between", Check.of("\t house\r\na  5 ;\n").count(0), 1);
        Check.due("no blanks between", Check.of("house a5;street;house b07;").count(7), 12);
        Check.due("a name of 8", Check.of("house abcdefgh 1;").count(0), 1);
        Check.fault("house abcdefghi 1;", 1, 6);
        Check.due("an int of 4", Check.of("house a 0012;").house(0, 0), 12);
        Check.due("the greatest purse", Check.of("house a 9999;").house(0, 0), 9999);
        Check.fault("house a 12345;", 1, 8);
        Check.fault("house a 00000;", 1, 8);
        Check.due("a word longer than one in quotes", Check.of("house pays1;".replace("pays", "payss")).count(0), 1);
        Check.fault("house pays 1;", 1, 6);
        Check.fault("house pot 1;", 1, 6);
        Check.fault("house A 1;", 1, 6);
        Check.fault("house a_b 1;", 1, 7);
        Check.fault("house a 1.", 1, 9);
        Check.fault("." , 1, 0);
        Check.fault("house a 1;" + (char) 11, 1, 10);
        Check.fault("house a 1;" + (char) 0, 1, 10);
        Check.fault("street" + (char) 233 + ";", 1, 6);
        Check.fault((char) 255 + "street;", 1, 0);
        Check.fault("streets;", 1, 0);
        Check.fault("housea 1;", 1, 0);
    }

    private static void syntax() {
        Check.fault("house a 5", 1, 9);
        Check.fault("house a 5  \n", 1, 12);
        Check.fault("house", 1, 5);
        Check.fault("house 5;", 1, 6);
        Check.fault("house a;", 1, 7);
        Check.fault("a", 1, 0);
        Check.fault(";", 1, 0);
        Check.fault("street;;", 1, 7);
        Check.fault("street turns;", 1, 7);
        Check.fault("turns 1;", 1, 6);
        Check.fault("alike;", 1, 0);
        Check.fault("shared 7;", 1, 7);
        Check.fault("shared few 7;", 1, 7);
        Check.fault("shared gap 7;", 1, 7);
        Check.fault("shared most;", 1, 11);
        Check.fault("seed a;", 1, 5);
        Check.fault("seed -1;", 1, 5);
        Check.fault("pays gap;", 1, 5);
        Check.fault("pays = ;", 1, 7);
        Check.fault("pays = -1;", 1, 7);
        Check.fault("pays = a;", 1, 7);
        Check.fault("pays = 1 2;", 1, 9);
        Check.fault("pays = (1;", 1, 9);
        Check.fault("pays = 1);", 1, 8);
        Check.fault("pays = ();", 1, 8);
        Check.fault("pays = 1 +;", 1, 10);
        Check.fault("pays = 1 < 2;", 1, 9);
        Check.fault("pays = if 1 then 2 else 3;", 1, 12);
        Check.fault("pays = if 1 < 2 < 3 then 2 else 3;", 1, 16);
        Check.fault("pays = if 1 < 2 then 2;", 1, 22);
        Check.fault("pays = if 1 < 2 then if 1 < 2 then 2 else 3 else 4;", 1, 21);
        Check.fault("pays = (if 1 < 2 then 2 else 3);", 1, 8);
        Check.fault("earns = if (1 < 2) then 2 else 3;", 1, 14);
        Check.fault("pays = 1 + house;", 1, 11);
    }

    private static void room() {
        // 'street;' is two tokens: 400 of them and one more
        Check.due("400 tokens", Check.of(many("street;", 200)).count(1), 1);
        Check.fault(many("street;", 200) + "turns;", 2, 1400);
        Check.fault(many("street;", 200) + ";", 1, 1400);
        Check.fault(many("street;", 200) + "#", 1, 1400);
        Check.fault(many("street;", 199) + "seed 3;", 2, 1399);
        Check.fault(many("street;", 199) + "seed 3=", 1, 1399);
        Check.fault(many("street;", 199) + "seed 3", 1, 1399);
        Check.fault(many("street;", 199) + "shared most", 1, 1404);
        Check.fault(many("street;", 199) + "shared most 3;", 2, 1405);
        Check.fault("pays=1" + many("+1", 300) + ";", 2, 5 + 398);
        Check.fault("pays=1" + many("+1", 198) + "+;", 1, 5 + 398);
        Check.due("a law of 400 tokens", Check.of("street;house a 999;pays=1" + many("+1", 195) + ";").house(0, 4), 196);

        StringBuilder ten = new StringBuilder();
        for (char c = 'a'; c <= 'j'; c++) ten.append("house ").append(c).append(" 1;");
        Check.due("ten houses", Check.of(ten.toString()).count(0), 10);
        Check.fault(ten + "house k 1;", 2, 100);
        Check.fault(ten + "house", 2, 100);
        Check.fault(ten + "house 7", 2, 100);
        Check.fault(ten + "street; house a 1;", 2, 108);
        Check.fault(ten + "streat;", 1, 100);

        String branch = "if 1<2 then 3 else ";
        Check.due("four ifs", Check.of("house a 9;pays=" + many(branch, 4) + "4;").house(0, 4), 3);
        Check.fault("pays=" + many(branch, 5) + "4;", 2, 5 + 4 * branch.length());
        Check.fault("pays=" + many(branch, 4) + "iff;", 1, 5 + 4 * branch.length());
        Check.due("four ifs of each", Check.of("pays=" + many(branch, 4) + "4;earns=" + many(branch, 4) + "4;").count(0), 0);

        Check.due("six ( within one another", Check.of("house a 9;pays=((((((5))))))+(((1)));").house(0, 4), 6);
        Check.fault("pays=(((((((5)))))));", 2, 11);
        Check.fault("pays=((((((;", 1, 11);
        Check.fault("pays=(1)+(1)+(1)+(1)+(1)+(1)+(1)+((((((1))))))+(((((((1)))))));", 2, 53);
        Check.fault("pays=if ((((((1))))))<(((((((1))))))) then 1 else 1;", 2, 28);
    }

    private static void laterFaults() {
        Check.fault("house a 1;house b 1;house a 2;", 3, 26);
        Check.fault("house a 1;house a 2;house a 3;", 3, 16);
        Check.fault("shared alike 0;", 5, 13);
        Check.fault("shared round 31;", 5, 13);
        Check.fault("shared most 0000;", 5, 12);
        Check.due("evenings of 1", Check.of("shared most 1;").count(4), 1);
        Check.due("evenings of 30", Check.of("shared most 0030;").count(4), 30);
        Check.fault("shared most 0;shared most 3;", 5, 12);
        Check.fault("house a 1;shared most 0;house a 1;", 5, 22);
        Check.fault("house a 1;house a 1;shared most 0;", 3, 16);
        // what ends a text early stands ahead of what is told twice
        Check.fault("house a 1;house a 1;street", 1, 26);
        Check.fault("shared most 0;" + many("street;", 200), 2, 14 + 198 * 7);
    }

    private static void ofSeveralTheLast() {
        RingPurses x = Check.of("house a 50;pays=3;shared most 4;seed 3;earns=2;pays=5;shared round 6;earns=1;seed 4;");
        Check.due("the last pays", x.house(0, 4), 5);
        Check.due("the last sharing", x.count(3), 2);
        Check.due("the last evenings", x.count(4), 6);
        x.run(1);
        Check.due("the last earns", x.house(0, 0), 46);
        Check.due("an empty text tells nothing", Check.read(x, " ") + x.count(0) + x.count(3), 0);
        Check.due("nor how many evenings", x.count(4), 7);
    }

    private static void told(String law, int want) {
        Check.due(law, Check.of("house a 9999;pays=" + law + ";").house(0, 4), want);
    }

    private static void whatALawTells() {
        told("2+3*4", 14);
        told("(2+3)*4", 20);
        told("20-5-3", 12);
        told("20-(5-3)", 18);
        told("100/7/2", 7);
        told("100/7*2", 28);
        told("7*100/2", 350);
        told("1+2*3-8/4*2", 3);
        told("2*(3+4*(5-1))/2", 19);
        String deepest = "1+2*(1+2*(1+2*(1+2*(1+2*(1+2*(1+2*3))))))";
        told(deepest, 511);
        told("if " + deepest + "<" + deepest.replace('3', '4') + " then 7 else 8", 7);
        told("if " + deepest.replace('3', '4') + "<" + deepest + " then 7 else 8", 8);
        told(many("if 2<1 then 0 else ", 4) + deepest, 511);
        told("0-5", 0);
        told("(0-7)/2+10", 7);
        told("7/(0-2)+10", 7);
        told("9999+9999", 9999);
        told("(0-9999*9999*9999)/9999/99", 1037);
        told("2048*1024*1024/(0-1)/(0-1024)/1024", 2048);
        told("9999*9999*22-9999*9999*22+8", 8);
        told("5/0", 0);
        told("7+5/(own-own)", 0);
        told("0*(5/0)+7", 0);
        told("if 1<2 then 7 else 5/0", 7);
        told("if 2<1 then 5/0 else 7", 7);
        told("if 2<1 then 7 else 5/0", 0);
        told("if 5/0<1 then 7 else 8", 0);
        told("if 1<2 then 7 else if 5/0<1 then 8 else 9", 7);
        told("if 1<1 then 7 else if 1<5/0 then 8 else 9", 0);
        told("if 1<1 then 7 else 8", 8);
        told("if 2<1 then 7 else if 1<2 then 8 else 9", 8);
        told("if 2<1 then 7 else if 2<2 then 8 else if 0-1<0 then 9 else 10", 9);
        told("if 2<1 then 7 else if 2<2 then 8 else if 0<0-1 then 9 else 10", 10);
    }

    private static void whatALawLooksAt() {
        String houses = "house a 10;house b 200;house c 3000;";
        RingPurses ring = Check.of(houses + "pays=left;");
        Check.due("left in a ring", ring.house(0, 4), 10);
        ring = Check.of(houses + "pays=left/100;");
        Check.due("left of the first in a ring", ring.house(0, 4), 10);
        Check.due("left of the second", ring.house(2, 4), 2);
        Check.due("right of the last in a ring", Check.of(houses + "pays=right+1;").house(2, 4), 11);
        Check.due("right of the first", Check.of(houses + "pays=right/100;").house(0, 4), 2);
        Check.due("left at a street's end", Check.of("street;" + houses + "pays=left/10;").house(0, 4), 1);
        Check.due("right at a street's end", Check.of("street;" + houses + "pays=right/100;").house(2, 4), 30);
        Check.due("gap at a street's end", Check.of("street;" + houses).house(2, 3), 2800);
        Check.due("own", Check.of(houses + "pays=own/2;").house(2, 4), 1500);
        Check.due("gap", Check.of(houses + "pays=gap/100;").house(1, 4), 29);
        RingPurses two = Check.of("house a 10;house b 70;pays=left+right;");
        Check.due("left and right in a ring of two", two.house(1, 4), 20);
        Check.due("gap in a ring of two", two.house(1, 3), 0);
        RingPurses one = Check.of("house a 70;pays=left-right+left/10;");
        Check.due("left and right in a ring of one", one.house(0, 4), 7);

        RingPurses x = Check.of(houses + "pays=if right<300 then day+5 else pot;");
        Check.due("day and pot of the first", x.house(0, 4), 5);
        Check.due("day and pot of the second", x.house(1, 4), 0);
        x.run(1);
        Check.due("day then, held to what it has left", x.house(0, 4), 5);
        Check.due("pot then", x.house(1, 4), x.count(5));
        x = Check.of(houses + "pays=right;");
        x.hide(1, 150);
        Check.due("what is hidden is not seen", Check.of("house a 90;house b 60;pays=right;").house(0, 4), 60);
        Check.due("nor here", x.house(2, 4), 10);
        x.hide(2, 2995);
        Check.due("nor paid", x.house(2, 4), 5);
    }

    private static void lots() {
        for (int seed : new int[] {0, 1, 77, 9999}) {
            RingPurses x = Check.of("house a 500;house b 500;pays=lot;shared alike 30;seed " + seed + ";");
            for (int day = 0; day < 5; day++) {
                for (int i = 0; i < 2; i++) {
                    Check.due("lot " + seed + " " + day + " " + i, x.house(i, 4), Model.lot(seed, 20 * day + i, 100));
                }
                x.run(1);
            }
        }
        Check.due("lot told by number", Check.of("house a 500;pays=lot;seed 7;").house(0, 4), 98);
    }
}
