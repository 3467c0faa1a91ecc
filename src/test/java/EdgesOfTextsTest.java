/** Boundary cases of term 1 and of promises 1 to 7, 18, 33 to 35, sentence by sentence. */
public final class EdgesOfTextsTest extends Edges {
    // ---- term 1: what there may be ----

    private static void sizes() {
        edge("W columns, 1 .. 8", () -> {
            fine(0, "wall 1 2;");
            due("W", x.wall(0, 0), 1);
            fine(0, "wall 8 2;");
            due("W", x.wall(0, 0), 8);
            for (String w : new String[] {"0", "00", "9", "10", "99"}) fault(0, "wall " + w + " 2;", 2, 5);
        });
        edge("H rows, 1 .. 4", () -> {
            fine(0, "wall 3 1;");
            due("H", x.wall(0, 1), 1);
            fine(0, "wall 3 4;");
            due("H", x.wall(0, 1), 4);
            for (String h : new String[] {"0", "00", "5", "10", "99"}) fault(0, "wall 3 " + h + ";", 2, 7);
        });
        edge("(3 and 2 at first)", () -> {
            wall("");
            walls(new int[][] {{0, 3}, {1, 2}, {100, 2}, {105, 2}, {106, -1}});
        });
        edge("CELLS, numbered row by row from 0 on", () -> {
            wall("wall 8 4;");
            due("the first of the second row", x.loss(0, 0, 8, true), 1);
            due("the last of the first row and the first of the second one", x.loss(0, 7, 8, true), 8);
            due("the first and the last CELL", x.loss(0, 0, 31, true), 10);
        });
        edge("DEAD of each CELL, 1 .. 9", () -> {
            fine(0, "dead 0 1;");
            due("DEAD", x.wall(0, 100), 1);
            fine(0, "dead 0 9;");
            due("DEAD", x.wall(0, 100), 9);
            for (String dead : new String[] {"0", "10", "99"}) fault(0, "dead 0 " + dead + ";", 2, 7);
        });
        edge("DEAD (2 at first)", () -> {
            wall("wall 8 4;dead 1 9;");
            for (int c = 0; c < 32; c++) due("DEAD of " + c, x.wall(0, 100 + c), c == 1 ? 9 : 2);
        });
        edge("SOURCE, a CELL (0 at first)", () -> {
            wall("wall 8 4;");
            due("SOURCE", x.wall(0, 2), 0);
            wall("wall 8 4;source 31;");
            due("SOURCE", x.wall(0, 2), 31);
            fault(0, "source 6;", 4, 9);
            fine(0, "source 5;");
        });
    }

    private static void limits() {
        edge("FEELERS, at most 6, from 0 on", () -> {
            fine(0, "");
            walls(new int[][] {{3, 0}, {10, -1}, {20, -1}});
            fine(0, "feeler 0 1;feeler 1 2;feeler 2 3;feeler 3 4;feeler 4 5;feeler 5 6;");
            due("FEELERS", x.wall(0, 3), 6);
            for (int f = 0; f < 6; f++) {
                due("CELL", x.wall(0, 10 + f), f);
                due("TENDER", x.wall(0, 20 + f), f + 1);
            }
            fault(0, "feeler 0 1;".repeat(7), 3, 66);
        });
        edge("TENDER, 1 .. 9", () -> {
            fine(0, "feeler 0 1;feeler 0 9;");
            walls(new int[][] {{20, 1}, {21, 9}});
            for (String tender : new String[] {"0", "10", "99"}) fault(0, "feeler 0 " + tender + ";", 2, 9);
        });
        edge("TALES, at most 6, from 0 on", () -> {
            fine(0, "");
            walls(new int[][] {{4, 0}, {30, -1}, {40, -1}});
            fine(0, "tale 0;tale 1;tale 1 1;tale 1 1 1;tale 0 1;tale 0 0 1;");
            walls(new int[][] {{4, 6}, {30, 1}, {35, 3}, {40, 0}, {41, 1}, {42, 3}, {43, 7}, {44, 2}, {45, 4}});
            fault(0, "tale 0;".repeat(7), 3, 42);
        });
        edge("MARKS, 1 to 6", () -> {
            fault(0, "tale;", 1, 4);
            fine(0, "tale 1;");
            due("MARKS", x.wall(0, 30), 1);
            fine(0, "tale 1 0 0 0 0 1;");
            walls(new int[][] {{30, 6}, {40, 33}});
            fault(0, "tale 1 0 0 0 0 1 0;", 3, 17);
        });
        edge("MARKS, each 0 or 1", () -> {
            fine(0, "tale 0;tale 1;tale 00 01;");
            walls(new int[][] {{40, 0}, {41, 1}, {32, 2}, {42, 2}});
            for (String mark : new String[] {"2", "9", "10", "11"}) fault(0, "tale 1 " + mark + ";", 2, 7);
        });
        edge("DEEDS, at most 40, from 0 on", () -> {
            fine(1, "");
            due("DEEDS", x.deed(0, -1, 0), 0);
            fine(1, "play 0;".repeat(39) + "play 9;");
            due("DEEDS", x.deed(0, -1, 0), 40);
            due("the last one", x.deed(0, 39, 1), 9);
            fault(1, "play 0;".repeat(41), 3, 280);
        });
        edge("FACTS, at most 8, from 0 on", () -> {
            fine(2, "");
            due("FACTS", x.fact(0, -1, 0), 0);
            fine(2, "not 0 0;".repeat(7) + "felt 0 9;");
            due("FACTS", x.fact(0, -1, 0), 8);
            due("the last one", x.fact(0, 7, 2), 9);
            fault(2, "not 0 0;".repeat(9), 3, 64);
        });
        edge("a FEELER FELT at a beat, 0 .. 19", () -> {
            fine(2, "felt 0 0;felt 0 19;not 0 0;not 0 19;");
            fault(2, "felt 0 20;", 2, 7);
            fault(2, "not 0 20;", 2, 6);
            fault(2, "not 0 99;", 2, 6);
        });
        edge("WALLS, at most 2 (sort 0), DAYS, at most 2 (1), LOGS, at most 2 (2), from 0 on", () -> {
            x = new DeafWall();
            for (int sort = 0; sort < 3; sort++) {
                due("the first", x.text(sort, -1), 0);
                due("the second", x.text(sort, -1), 1);
                due("a third", x.text(sort, -1), -2);
                due("how many", x.count(sort), 2);
            }
        });
    }

    // ---- term 1: tape and tokens ----

    private static void tape() {
        edge("THE TAPE has at most 600 bytes", () -> {
            fine(1, " ".repeat(593) + "play 9;");
            due("the DEED at the tape's end", x.deed(0, 0, 1), 9);
            fine(0, "\n".repeat(600));
            fault(1, " ".repeat(599) + "x", 1, 599);
            fault(1, " ".repeat(594) + "play 9", 1, 600);
            fault(0, "source 6;" + " ".repeat(591), 4, 600);
        });
        edge("blanks (10, 32) between", () -> {
            fine(0, "  \n\n wall \n 5\n1 ; \n");
            walls(new int[][] {{0, 5}, {1, 1}});
            fine(0, " ");
            fine(0, "\n");
            for (int sign : new int[] {0, 9, 11, 12, 13, 31, 33, 160, 255}) {
                fault(0, "wall" + (char) sign + "5 1;", 1, 4);
                fault(0, (char) sign + "wall 5 1;", 1, 0);
                fault(0, "wall 5 1;" + (char) sign, 1, 9);
            }
        });
        edge("TOKENS, as long as they go", () -> {
            fine(0, "wall5 1;source4;tale1 0;");
            walls(new int[][] {{0, 5}, {2, 4}, {40, 1}});
            fault(0, "walls 5 1;", 1, 0);
            fault(0, "wallwall 5 1;", 1, 0);
            fault(0, "wall 51;", 1, 7);
            fault(0, "tale 11;", 2, 5);
            fault(0, "tale 1tale 0;", 1, 6);
        });
        edge("words, rows of letters a .. z", () -> {
            for (char sign : new char[] {'`', '{', '@', '[', 'A', 'Z', (char) 225, (char) 250}) {
                fault(0, sign + "wall 5 1;", 1, 0);
                fault(0, "wall" + sign + " 5 1;", 1, 4);
            }
            fault(0, "awall 5 1;", 1, 0);
            fault(0, "walla 5 1;", 1, 0);
            fault(0, "zwall 5 1;", 1, 0);
            fault(0, "wallz 5 1;", 1, 0);
            fault(0, "wal 5 1;", 1, 0);
            fault(0, "w", 1, 0);
        });
        edge("NUMBERS, 1 or 2 digits", () -> {
            fine(0, "wall 08 04;dead 00 09;dead 09 01;dead 10 5;dead 19 05;source 20;");
            walls(new int[][] {{0, 8}, {1, 4}, {100, 9}, {109, 1}, {110, 5}, {119, 5}, {2, 20}});
            for (char sign : new char[] {'/', ':', '-', '+', '.', (char) 178}) {
                fault(0, "wall " + sign + "5 1;", 1, 5);
                fault(0, "wall 5" + sign + "1;", 1, 6);
            }
        });
        edge("; one byte", () -> {
            fine(0, "tale 1;tale 0;");
            fault(0, "tale 1;;", 1, 7);
            fault(0, ";", 1, 0);
            fault(0, "tale 1:", 1, 6);
            fault(0, "tale 1<", 1, 6);
        });
    }

    /** Each kind of line with all its NUMBERS, one too few, one too many, none, and without its end. */
    private static void line(int sort, String word, int numbers) {
        String all = word + " 1".repeat(numbers);
        fine(sort, all + ";");
        fault(sort, all, 1, all.length());
        fault(sort, all + " ", 1, all.length() + 1);
        fault(sort, all + " " + word, 1, all.length() + 1);
        fault(sort, word + ";", 1, word.length());
        fault(sort, word, 1, word.length());
        if (numbers > 1) fault(sort, word + " 1;", 1, word.length() + 2);
        if (!word.equals("tale")) fault(sort, all + " 1;", 1, all.length() + 1);
        for (int other = 0; other < 3; other++) if (other != sort) fault(other, all + ";", 1, 0);
        for (int k = 0; k < word.length(); k++) {
            fault(sort, all.substring(0, k) + 'q' + all.substring(k + 1) + ";", 1, 0);
            if (k > 0) fault(sort, all.substring(0, k) + " " + all.substring(k) + ";", 1, 0);
        }
    }

    private static void lines() {
        edge("A WALL's text: {(..) ';'}", () -> {
            fine(0, "");
            line(0, "wall", 2);
            line(0, "dead", 2);
            line(0, "source", 1);
            line(0, "feeler", 2);
            line(0, "tale", 1);
        });
        edge("A DAY's text: {(..) ';'}", () -> {
            fine(1, "");
            for (String word : new String[] {"play", "wet", "dry", "hush", "touch"}) line(1, word, 1);
            line(1, "move", 2);
        });
        edge("A LOG's text: {(..) NUMBER NUMBER ';'}", () -> {
            fine(2, "");
            line(2, "felt", 2);
            line(2, "not", 2);
        });
        edge("CELLS are 0 .. 31", () -> {
            fine(0, "wall 8 4;dead 0 1;dead 31 1;source 0;source 31;feeler 0 1;feeler 31 1;");
            fault(0, "wall 8 4;dead 32 1;", 2, 14);
            fault(0, "wall 8 4;source 32;", 2, 16);
            fault(0, "wall 8 4;feeler 32 1;", 2, 16);
            fault(0, "dead 99 1;", 2, 5);
        });
        edge("play: 0 .. 9", () -> {
            fine(1, "play 0;play 9;play 00;play 09;");
            fault(1, "play 10;", 2, 5);
            fault(1, "play 99;", 2, 5);
        });
        edge("wet, dry: a CELL", () -> {
            fine(1, "wet 0;wet 31;dry 0;dry 31;");
            fault(1, "wet 32;", 2, 4);
            fault(1, "dry 32;", 2, 4);
        });
        edge("hush, touch: a FEELER, 0 .. 5", () -> {
            fine(1, "hush 0;hush 5;touch 0;touch 5;");
            fault(1, "hush 6;", 2, 5);
            fault(1, "touch 6;", 2, 6);
        });
        edge("move: a FEELER, a CELL", () -> {
            fine(1, "move 0 0;move 5 31;");
            fault(1, "move 6 0;", 2, 5);
            fault(1, "move 0 32;", 2, 7);
            fault(1, "move 6 32;", 2, 5);
        });
        edge("A LOG's text: (a FEELER, a beat)", () -> {
            fine(2, "felt 0 0;felt 5 19;not 0 0;not 5 19;");
            fault(2, "felt 6 0;", 2, 5);
            fault(2, "not 6 0;", 2, 4);
            fault(2, "not 6 20;", 2, 4);
        });
        edge("Later ones strike (wall, dead of one CELL, source)", () -> {
            fine(0, "wall 8 4;wall 2 3;dead 0 9;dead 1 8;dead 0 1;source 5;source 3;source 0;");
            walls(new int[][] {{0, 2}, {1, 3}, {100, 1}, {101, 8}, {2, 0}, {105, 2}, {106, -1}});
            fault(0, "wall 9 1;wall 3 2;", 2, 5);
        });
        edge("but all others, which are further ones", () -> {
            fine(0, "feeler 0 1;feeler 0 1;tale 1;tale 1;");
            walls(new int[][] {{3, 2}, {4, 2}});
            fine(1, "hush 0;hush 0;");
            due("DEEDS", x.deed(0, -1, 0), 2);
            fine(2, "felt 0 0;felt 0 0;not 0 0;");
            due("FACTS", x.fact(0, -1, 0), 3);
        });
    }

    // ---- term 1: faults ----

    private static void faults() {
        edge("1 the first byte or token with which no text goes on", () -> {
            fault(0, "wall 5 1; # x", 1, 10);
            fault(0, "x #", 1, 0);
            fault(0, "wall wall", 1, 5);
            fault(0, "5 1;", 1, 0);
            fault(1, "play 9;9;", 1, 7);
            fault(2, "felt 0 0;felt;", 1, 13);
        });
        edge("1, ahead of all other FAULTS", () -> {
            fault(0, "wall 9 9;x", 1, 9);
            fault(0, "feeler 0 1;".repeat(7) + "x", 1, 77);
            fault(0, "tale 0 0 0 0 0 0 0", 1, 18);
            fault(0, "source 31;x", 1, 10);
            fault(1, "play 99;".repeat(41) + "play", 1, 332);
            fault(2, "not 9 99;".repeat(9) + ";", 1, 81);
        });
        edge("(a longer row of digits is no token)", () -> {
            fault(0, "wall 100 1;", 1, 5);
            fault(0, "wall 5 001;", 1, 7);
            fault(0, "source 000;", 1, 7);
            fault(0, "tale 1 0 111;", 1, 9);
            fault(0, "tale 1 000", 1, 7);
            fault(1, "play " + "0".repeat(595), 1, 5);
            fault(2, "not 0 019;", 1, 6);
            fault(0, "123", 1, 0);
        });
        edge("places: the end's", () -> {
            fault(0, "tale", 1, 4);
            fault(0, "tale 1", 1, 6);
            fault(0, "tale 1 \n ", 1, 9);
            fault(0, "wall 5 ", 1, 7);
        });
        edge("the first by place: 2 or 3", () -> {
            String six = "feeler 0 1;".repeat(6);
            fault(0, six + "wall 9 1;feeler 0 1;", 2, 71);
            fault(0, six + "feeler 0 1;wall 9 1;", 3, 66);
            fault(0, "wall 9 9;", 2, 5);
            fault(0, "tale 0;".repeat(6) + six + "feeler 0 1;tale 0;", 3, 108);
            fault(0, "tale 0;".repeat(6) + six + "tale 0;feeler 0 1;", 3, 108);
            fault(0, "tale 0 0 0 0 0 0 0 2;", 3, 17);
            fault(0, "tale 0 0 0 0 0 2 0;", 2, 15);
        });
        edge("of one place the least", () -> {
            fault(0, "tale 0 0 0 0 0 0 2;", 2, 17);
            fault(0, "tale 1 1 1 1 1 1 99 0;", 2, 17);
        });
        edge("a line with such a NUMBER tells its FEELER, TALE, DEED, FACT all the same", () -> {
            fault(0, "feeler 0 1;".repeat(6) + "feeler 0 0;", 3, 66);
            fault(0, "feeler 0 1;".repeat(6) + "feeler 99 1;", 3, 66);
            fault(0, "tale 0;".repeat(6) + "tale 2;", 3, 42);
            fault(1, "wet 0;".repeat(40) + "wet 99;", 3, 240);
            fault(2, "not 0 0;".repeat(8) + "not 9 99;", 3, 64);
            fault(0, "feeler 0 0;".repeat(7), 2, 9);
        });
        edge("3 a 7th FEELER, a 7th TALE, a 41st DEED, a 9th FACT, at its first token", () -> {
            fault(0, "feeler 0 1;".repeat(6) + " \nfeeler 0 1;", 3, 68);
            fault(0, "tale 1;".repeat(6) + " tale 1;", 3, 43);
            fault(1, "dry 0;".repeat(40) + " dry 0;", 3, 241);
            fault(1, "play 0;hush 0;".repeat(20) + "move 0 0;", 3, 280);
            fault(2, "felt 0 0;not 0 0;".repeat(4) + " felt 0 0;", 3, 69);
        });
        edge("3 a 7th MARK of a TALE, at it", () -> {
            fine(0, "tale 1 1 1 1 1 1;");
            fault(0, "tale 1 1 1 1 1 1  1;", 3, 18);
            fault(0, "tale 1;tale 1 1 1 1 1 1 1 1;", 3, 24);
        });
        faultFour();
    }

    private static void faultFour() {
        edge("4 of a WALL a CELL that was told of and is not there, at the end's place", () -> {
            fine(0, "dead 5 1;source 5;feeler 5 1;");
            fault(0, "dead 6 1;", 4, 9);
            fault(0, "source 6;\n ", 4, 11);
            fault(0, "feeler 6 1;", 4, 11);
            fine(0, "wall 1 1;dead 0 1;");
            fault(0, "wall 1 1;dead 1 1;", 4, 18);
            fault(0, "wall 8 4;dead 31 1;wall 8 3;", 4, 28);
            fine(0, "dead 31 1;source 31;feeler 31 1;wall 8 4;");
            fault(0, "dead 31 1;wall 1 4;", 4, 19);
        });
        edge("4, if there is none of the others", () -> {
            fault(0, "source 31;wall 9 1;", 2, 15);
            fault(0, "source 31;tale 0 0 0 0 0 0 0;", 3, 27);
            fault(0, "source 31;tale", 1, 14);
        });
        edge("4 of a WALL alone", () -> {
            x = new DeafWall();
            due("a WALL of one CELL", Check.take(x, 0, ONE), 0);
            due("a DAY", Check.take(x, 1, "wet 31;dry 31;move 5 31;hush 5;"), 0);
            due("a LOG", Check.take(x, 2, "felt 5 19;"), 0);
            due("FAULT", x.fault(0), 0);
        });
    }

    // ---- promises 1 to 5 ----

    private static void newObject() {
        edge("Promise 1: No WALLS, DAYS, LOGS", () -> {
            x = new DeafWall();
            for (int sort = 0; sort < 3; sort++) due("count", x.count(sort), 0);
            due("wall", x.wall(0, 0), -1);
            due("deed", x.deed(0, -1, 0), -2);
            due("fact", x.fact(0, -1, 0), -2);
            due("in the place of a WALL", x.text(0, 0), -2);
        });
        edge("Promise 1: no images", () -> {
            x = new DeafWall();
            for (int k = 0; k < 3; k++) due("again", x.again(k), false);
        });
        edge("Promise 1: the tape is empty, no FAULT", () -> {
            x = new DeafWall();
            due("end(1)", x.end(1), -1);
            due("FAULT", x.fault(0), 0);
            due("place", x.fault(1), -1);
        });
        edge("Promise 1: what one object is told, another is not", () -> {
            wall("wall 8 4;");
            x.image(0);
            DeafWall other = new DeafWall();
            due("count", other.count(0), 0);
            due("again", other.again(0), false);
            due("count", x.count(0), 1);
        });
    }

    private static void feedAndEnd() {
        edge("Promise 2: twenty bytes come behind it, of each number the highest first", () -> {
            x = new DeafWall();
            due("feed", x.feed(0x20202020, 0x20202020, 0x20202020, 0x20202020, 0x2020736f), 20);
            due("feed", x.feed(0x75726365, 0x20353b20, 0x20202020, 0x20202020, 0x20202020), 40);
            due("a word over two feeds", x.text(0, -1), 0);
            due("SOURCE", x.wall(0, 2), 5);
            for (int k = 0; k < 5; k++) {
                int[] n = {0x20202020, 0x20202020, 0x20202020, 0x20202020, 0x20202020};
                n[k] = 0x202020a0;
                x.feed(n[0], n[1], n[2], n[3], n[4]);
                due("a byte that is none", x.text(0, 0), -1);
                due("its place", x.fault(1), 4 * k + 3);
                n[k] = 0xff202020;
                x.feed(n[0], n[1], n[2], n[3], n[4]);
                due("a number below 0", x.text(0, 0), -1);
                due("its place", x.fault(1), 4 * k);
            }
        });
        edge("Promise 2: how many it has", () -> {
            x = new DeafWall();
            for (int k = 1; k <= 30; k++) due("feed", x.feed(MIN, MAX, -1, 0, 1), 20 * k);
            x.end(7);
            due("feed behind 7", x.feed(0, 0, 0, 0, 0), 27);
        });
        edge("Promise 2: NONE, and nothing comes, if there would be more than 600", () -> {
            for (int has : new int[] {581, 590, 599, 600}) {
                x = new DeafWall();
                Check.tape(x, " ".repeat(has));
                due("feed", x.feed(-1, -1, -1, -1, -1), -1);
                due("feed once more", x.feed(-1, -1, -1, -1, -1), -1);
                due("no longer", x.end(has + 1), -1);
                due("as long", x.end(has), has);
                due("blanks alone", x.text(1, -1), 0);
            }
            Check.tape(x, " ".repeat(580));
            due("just 600", x.feed(0, 0, 0, 0, 0), 600);
        });
        edge("Promise 3: The tape has its first n bytes alone: n", () -> {
            x = new DeafWall();
            due("end of nothing", x.end(0), 0);
            Check.tape(x, "source 5;           ");
            due("all of them", x.end(20), 20);
            due("end", x.end(7), 7);
            due("feed", x.feed(0x343b2020, 0x20202020, 0x20202020, 0x20202020, 0x20202020), 27);
            due("text", x.text(0, -1), 0);
            due("what was cut off is gone", x.wall(0, 2), 4);
            Check.tape(x, "source 5;");
            due("end", x.end(0), 0);
            due("an empty text", x.text(0, 0), 0);
            due("nothing told", x.wall(0, 2), 0);
        });
        edge("Promise 3: NONE if it has not so many, or n is below 0", () -> {
            x = new DeafWall();
            due("end(1) of nothing", x.end(1), -1);
            Check.tape(x, "source 5;");
            for (int n : new int[] {10, 20, 600, 601, MAX, -1, -2, MIN}) due("end(" + n + ")", x.end(n), -1);
            due("the tape stays", x.text(0, -1), 0);
            due("SOURCE", x.wall(0, 2), 5);
        });
    }

    private static void texts() {
        edge("Promise 4: The tape is taken (and is empty then)", () -> {
            x = new DeafWall();
            due("taken", Check.take(x, 0, "wall 5 1;"), 0);
            due("empty", x.end(1), -1);
            due("a FAULT", Check.take(x, 0, "wall 9 1;"), -1);
            due("empty", x.end(1), -1);
            Check.tape(x, "wall 4 1;");
            due("none such", x.text(0, 1), -2);
            due("empty", x.end(1), -1);
            due("an empty text", x.text(0, -1), 1);
            due("nothing told", x.wall(1, 0), 3);
        });
        edge("Promise 4: a further one (at NONE)", () -> {
            for (int sort = 0; sort < 3; sort++) {
                x = new DeafWall();
                due("the first", x.text(sort, -1), 0);
                due("the second", x.text(sort, -1), 1);
            }
        });
        edge("Promise 4: or in the place of one: its number", () -> {
            wall("wall 1 1;");
            Check.take(x, 0, "wall 2 1;");
            Check.tape(x, "wall 3 1;");
            due("the second", x.text(0, 1), 1);
            due("the first stays", x.wall(0, 0), 1);
            due("the second is new", x.wall(1, 0), 3);
            Check.tape(x, "wall 4 1;");
            due("the first", x.text(0, 0), 0);
            due("the first is new", x.wall(0, 0), 4);
            due("the second stays", x.wall(1, 0), 3);
            due("count", x.count(0), 2);
        });
        edge("Promise 4: NONE: a FAULT", () -> {
            day("wall 5 1;feeler 0 1;", "play 1;");
            due("a further one", Check.take(x, 0, "wall 9 1;"), -1);
            due("count", x.count(0), 1);
            Check.tape(x, "wall 1 1;feeler 4 1;");
            due("in the place of one", x.text(0, 0), -1);
            walls(new int[][] {{0, 5}, {3, 1}});
            Check.tape(x, "play 2;play 10;");
            due("a DAY", x.text(1, 0), -1);
            due("the DAY stays", x.deed(0, 0, 1), 1);
        });
        refusedTexts();
    }

    private static void refusedTexts() {
        edge("Promise 4: -2: there is none such", () -> {
            for (int sort = 0; sort < 3; sort++) {
                x = new DeafWall();
                due("0 of none", x.text(sort, 0), -2);
                x.text(sort, -1);
                for (int at : new int[] {1, 2, -2, MIN, MAX}) due("text at " + at, x.text(sort, at), -2);
                due("there is one", x.text(sort, 0), 0);
                x.text(sort, -1);
                for (int at : new int[] {2, 3, -2, MIN, MAX}) due("text at " + at, x.text(sort, at), -2);
                due("there are two", x.text(sort, 1), 1);
            }
        });
        edge("Promise 4: -2: there are as many as may be", () -> {
            for (int sort = 0; sort < 3; sort++) {
                x = new DeafWall();
                x.text(sort, -1);
                x.text(sort, -1);
                due("a third", x.text(sort, -1), -2);
                due("count", x.count(sort), 2);
                due("another sort", x.text((sort + 1) % 3, -1), 0);
            }
        });
        edge("Promise 4: -2: no such sort", () -> {
            x = new DeafWall();
            for (int sort : new int[] {-1, -2, 3, 4, MIN, MAX})
                for (int at : new int[] {-1, 0}) due("text(" + sort + ", " + at + ")", x.text(sort, at), -2);
        });
        edge("Promise 4: (no text is read then, FAULT 0)", () -> {
            wall("wall 5 1;");
            x.text(0, -1);
            for (int at : new int[] {-1, 2}) {
                due("a FAULT", Check.take(x, 1, "x"), -1);
                Check.tape(x, "x");
                due("refused", x.text(0, at), -2);
                due("FAULT", x.fault(0), 0);
                due("place", x.fault(1), -1);
                Check.tape(x, "wall 1 1;");
                due("refused", x.text(3, -1), -2);
                due("the first stays", x.wall(0, 0), 5);
                due("the second stays", x.wall(1, 0), 3);
            }
        });
        edge("Promise 4: a text is read by itself, whatever earlier ones told", () -> {
            x = new DeafWall();
            for (int times = 0; times < 3; times++) {
                int at = times < 2 ? -1 : 1, number = Math.min(times, 1);
                Check.tape(x, "wall 8 4;source 31;dead 30 9;" + "feeler 31 1;".repeat(6) + "tale 1;".repeat(6));
                due("a full WALL", x.text(0, at), number);
                Check.tape(x, "play 9;".repeat(40));
                due("a full DAY", x.text(1, at), number);
                Check.tape(x, "not 0 0;".repeat(8));
                due("a full LOG", x.text(2, at), number);
                due("a WALL of a CELL that is not there", Check.take(x, 0, "source 6;"), times == 0 ? -1 : -2);
            }
            Check.tape(x, "tale 0;");
            due("a small WALL", x.text(0, 1), 1);
            int[][] want = {{0, 3}, {1, 2}, {2, 0}, {3, 0}, {4, 1}, {30, 1}, {40, 0}, {10, -1}, {31, -1}, {100, 2}, {105, 2}, {106, -1}};
            for (int[] row : want) due("wall 1 " + row[0], x.wall(1, row[0]), row[1]);
            due("the other one stays", x.wall(0, 2), 31);
            Check.tape(x, "wet 3;");
            due("a small DAY", x.text(1, 1), 1);
            due("DEEDS", x.deed(1, -1, 0), 1);
            due("the other DAY", x.deed(0, -1, 0), 40);
            Check.tape(x, "felt 3 4;");
            due("a small LOG", x.text(2, 0), 0);
            due("FACTS", x.fact(0, -1, 0), 1);
            due("the other LOG", x.fact(1, -1, 0), 8);
        });
        edge("Promise 4: an empty tape is a text", () -> {
            for (int sort = 0; sort < 3; sort++) fine(sort, "");
        });
    }

    private static void fault() {
        edge("Promise 5: Of the latest text(), the FAULT, 0 without, its place, NONE without", () -> {
            x = new DeafWall();
            due("none yet", x.fault(0), 0);
            due("no place yet", x.fault(1), -1);
            Check.take(x, 0, " wall 9 1;");
            Check.tape(x, "tale");
            x.wall(0, 0);
            due("it stays till the next text()", x.fault(0), 2);
            due("its place too", x.fault(1), 6);
            x.text(0, -1);
            due("the next one's", x.fault(0), 1);
            due("its place", x.fault(1), 4);
            x.text(0, -1);
            due("none", x.fault(0), 0);
            due("no place", x.fault(1), -1);
            fault(0, "x", 1, 0);
        });
        edge("Promise 5: NONE for another what", () -> {
            fault(0, "     x", 1, 5);
            for (int what : new int[] {-1, -2, 2, 3, MIN, MAX}) due("fault(" + what + ")", x.fault(what), -1);
            x.text(0, -1);
            for (int what : new int[] {-1, 2, MIN, MAX}) due("fault(" + what + ")", x.fault(what), -1);
        });
    }

    // ---- promises 6, 7, 18, 33 ----

    private static void told() {
        edge("Promise 6: wall: each what, of a full WALL", () -> {
            fine(0, "wall 8 4;dead 31 9;source 31;feeler 31 9;" + "feeler 0 1;".repeat(4) + "feeler 30 8;"
                + "tale 1;" + "tale 0;".repeat(4) + "tale 0 1 1 1 1 1;");
            walls(new int[][] {{0, 8}, {1, 4}, {2, 31}, {3, 6}, {4, 6}, {10, 31}, {15, 30}, {20, 9}, {25, 8}, {30, 1}, {35, 6},
                {40, 1}, {45, 62}, {100, 2}, {131, 9}});
        });
        edge("Promise 6: NONE for another what, of a full WALL", () -> {
            fine(0, "wall 8 4;" + "feeler 0 1;".repeat(6) + "tale 1;".repeat(6));
            for (int what = -20; what < 300; what++) {
                boolean may = what >= 0 && what <= 4 || what >= 10 && what < 50 && what % 10 < 6 || what >= 100 && what < 132;
                if (!may) due("wall 0 " + what, x.wall(0, what), -1);
            }
            walls(new int[][] {{MIN, -1}, {MAX, -1}, {MIN + 10, -1}, {MIN + 100, -1}, {MAX - 99, -1}});
        });
        edge("Promise 6: NONE: there is none such (of any)", () -> {
            fine(0, "wall 2 1;feeler 0 1;tale 1;");
            walls(new int[][] {{10, 0}, {11, -1}, {20, 1}, {21, -1}, {30, 1}, {31, -1}, {40, 1}, {41, -1}, {101, 2}, {102, -1}});
            for (int wall : new int[] {1, 2, -1, -2, MIN, MAX}) due("wall " + wall, x.wall(wall, 0), -1);
        });
        edge("Promise 7: How many DEEDS (k NONE, what 0)", () -> {
            fine(1, "play 1;move 2 3;");
            due("DEEDS", x.deed(0, -1, 0), 2);
            for (int what : new int[] {1, 2, 3, -1, MIN, MAX}) due("k NONE, what " + what, x.deed(0, -1, what), -2);
        });
        edge("Promise 7: of DEED k, its kind, its numbers (NONE without)", () -> {
            fine(1, "play 9;wet 8;dry 7;hush 5;touch 4;move 3 31;");
            int[][] want = {{0, 9, -1}, {1, 8, -1}, {2, 7, -1}, {3, 5, -1}, {4, 4, -1}, {5, 3, 31}};
            for (int k = 0; k < 6; k++)
                for (int what = 0; what < 3; what++) due("deed " + k + " " + what, x.deed(0, k, what), want[k][what]);
        });
        edge("Promise 7: -2: there is none such (of either), or for another what", () -> {
            fine(1, "play 1;move 2 3;");
            for (int k : new int[] {2, 3, 40, -2, MIN, MAX}) due("deed " + k, x.deed(0, k, 0), -2);
            for (int what : new int[] {3, -1, -2, MIN, MAX}) due("deed 1, what " + what, x.deed(0, 1, what), -2);
            for (int day : new int[] {1, 2, -1, MIN, MAX}) due("day " + day, x.deed(day, 0, 0), -2);
            for (int day : new int[] {1, 2, -1, MIN, MAX}) due("DEEDS of day " + day, x.deed(day, -1, 0), -2);
        });
        edge("Promise 18: How many FACTS (k NONE, what 0)", () -> {
            fine(2, "felt 1 2;not 3 4;");
            due("FACTS", x.fact(0, -1, 0), 2);
            for (int what : new int[] {1, 2, 3, -1, MIN, MAX}) due("k NONE, what " + what, x.fact(0, -1, what), -2);
        });
        edge("Promise 18: of FACT k: 0 FELT, 1 not, the FEELER, the beat", () -> {
            fine(2, "felt 5 19;not 0 0;");
            int[][] want = {{0, 5, 19}, {1, 0, 0}};
            for (int k = 0; k < 2; k++)
                for (int what = 0; what < 3; what++) due("fact " + k + " " + what, x.fact(0, k, what), want[k][what]);
        });
        edge("Promise 18: -2: there is none such (of either), or for another what", () -> {
            fine(2, "felt 1 2;not 3 4;");
            for (int k : new int[] {2, 3, 8, -2, MIN, MAX}) due("fact " + k, x.fact(0, k, 0), -2);
            for (int what : new int[] {3, -1, -2, MIN, MAX}) due("fact 1, what " + what, x.fact(0, 1, what), -2);
            for (int log : new int[] {1, 2, -1, MIN, MAX}) due("log " + log, x.fact(log, 0, 0), -2);
            for (int log : new int[] {1, 2, -1, MIN, MAX}) due("FACTS of log " + log, x.fact(log, -1, 0), -2);
        });
        edge("Promise 33: How many there are of a sort", () -> {
            x = new DeafWall();
            for (int sort = 0; sort < 3; sort++)
                for (int n = 0; n < 4; n++) {
                    due("count", x.count(sort), Math.min(n, 2));
                    x.text(sort, -1);
                }
        });
        edge("Promises 6, 7, 18: of two, each by its number, no third", () -> {
            x = new DeafWall();
            for (int k = 1; k < 3; k++) {
                Check.take(x, 0, "wall " + k + " 1;");
                Check.take(x, 1, "play " + k + ";");
                Check.take(x, 2, "felt " + k + " 0;");
            }
            for (int k = 0; k < 2; k++) {
                due("wall " + k, x.wall(k, 0), k + 1);
                due("deed " + k, x.deed(k, 0, 1), k + 1);
                due("fact " + k, x.fact(k, 0, 1), k + 1);
            }
            due("wall 2", x.wall(2, 0), -1);
            due("deed 2", x.deed(2, 0, 1), -2);
            due("deeds of 2", x.deed(2, -1, 0), -2);
            due("fact 2", x.fact(2, 0, 1), -2);
            due("facts of 2", x.fact(2, -1, 0), -2);
        });
        edge("Promise 33: -2 for another one", () -> {
            x = new DeafWall();
            for (int sort : new int[] {-1, -2, 3, 4, MIN, MAX}) due("count " + sort, x.count(sort), -2);
        });
    }

    // ---- promises 34 and 35 ----

    private static void images() {
        edge("Promise 34: Image k (0 .. 2): true", () -> {
            x = new DeafWall();
            for (int k = 0; k < 3; k++) {
                Check.tape(x, " ".repeat(k));
                due("image", x.image(k), true);
            }
            for (int k = 0; k < 3; k++) {
                due("again", x.again(k), true);
                due("its own tape", x.end(k), k);
                due("no longer", x.end(k + 1), -1);
            }
        });
        edge("Promise 34: false for another k", () -> {
            wall("wall 5 1;");
            for (int k : new int[] {3, 4, -1, -2, MIN, MAX}) due("image " + k, x.image(k), false);
            for (int k : new int[] {0, 1, 2, 3, 4, -1, MIN, MAX}) due("none was made: " + k, x.again(k), false);
            due("all stays", x.wall(0, 0), 5);
        });
        edge("Promise 34: all that is told (the tape, the FAULT, too), as it is now", () -> {
            x = Check.with("wall 5 1;", "play 3;", "not 2 4;");
            Check.take(x, 2, "  x");
            Check.tape(x, "source 4;");
            due("image", x.image(1), true);
            due("nothing changes by it", x.fault(1), 2);
            x.end(0);
            for (int sort = 0; sort < 3; sort++) { x.text(sort, 0); x.text(sort, -1); }
            Check.tape(x, "         ");
            due("again", x.again(1), true);
            due("W", x.wall(0, 0), 5);
            due("DEED", x.deed(0, 0, 1), 3);
            due("FACT", x.fact(0, 0, 2), 4);
            for (int sort = 0; sort < 3; sort++) due("count", x.count(sort), 1);
            due("FAULT", x.fault(0), 1);
            due("place", x.fault(1), 2);
            due("as long a tape", x.end(10), -1);
            due("the tape's bytes", x.text(0, 0), 0);
            due("SOURCE", x.wall(0, 2), 4);
        });
        edge("Promise 34: an image of a new object", () -> {
            x = new DeafWall();
            due("image", x.image(0), true);
            for (int sort = 0; sort < 3; sort++) x.text(sort, -1);
            Check.take(x, 0, "x");
            Check.tape(x, "y");
            due("again", x.again(0), true);
            for (int sort = 0; sort < 3; sort++) due("count", x.count(sort), 0);
            due("FAULT", x.fault(0), 0);
            due("place", x.fault(1), -1);
            due("tape", x.end(1), -1);
            due("wall", x.wall(0, 0), -1);
        });
        edge("Promise 34: an image made anew", () -> {
            wall("wall 5 1;");
            x.image(0);
            Check.tape(x, "wall 4 1;");
            x.text(0, 0);
            due("image", x.image(0), true);
            x.text(0, 0);
            due("again", x.again(0), true);
            due("the newer one", x.wall(0, 0), 4);
        });
        edge("Promise 34: what changes later does not change an image", () -> {
            wall("wall 5 1;");
            Check.tape(x, "source 4;");
            x.image(2);
            for (int times = 0; times < 3; times++) {
                x.end(3);
                x.feed(-1, -1, -1, -1, -1);
                x.text(0, 0);
                Check.tape(x, "wall 1 1;");
                x.text(0, 0);
                due("again", x.again(2), true);
                due("W", x.wall(0, 0), 5);
                due("the tape", x.text(0, 0), 0);
                due("its text", x.wall(0, 2), 4);
                due("again", x.again(2), true);
            }
        });
        edge("Promise 35: (other images stay)", () -> {
            wall("wall 1 1;");
            x.image(0);
            for (int w = 2; w < 4; w++) {
                Check.tape(x, "wall " + w + " 1;");
                x.text(0, 0);
                x.image(w - 1);
            }
            for (int k : new int[] {0, 2, 1, 1, 0, 2}) {
                due("again", x.again(k), true);
                due("W", x.wall(0, 0), k + 1);
            }
        });
        edge("Promise 35: false if there is none such", () -> {
            wall("wall 5 1;");
            x.image(1);
            Check.tape(x, "wall 4 1;");
            x.text(0, 0);
            for (int k : new int[] {0, 2, 3, -1, -2, MIN, MAX}) {
                due("again " + k, x.again(k), false);
                due("nothing changes", x.wall(0, 0), 4);
            }
            due("there is one", x.again(1), true);
        });
    }

    public static void main(String[] args) {
        sizes();
        limits();
        tape();
        lines();
        faults();
        newObject();
        feedAndEnd();
        texts();
        fault();
        told();
        images();
        Check.finish("EdgesOfTextsTest");
    }
}
