/** Objects with something of all that calls can change or be refused for. */
final class Scenes {
    private Scenes() {
    }

    /** Rows 0 (three ints), 1 (none), 5 (40); texts 0 (a street), 1 (one with a fault), 3 (none). */
    static PaperWalls rich() {
        PaperWalls x = Streets.fiveWithTalks();
        Streets.fill(x, 0, 3, -4, 5);
        x.row(1, 0);
        x.row(5, 40);
        Streets.write(x, 1, "p12 o3");
        x.text(3, 0);
        x.comes(2, 0);
        x.comes(3, 7);
        x.tell(2, 0);
        x.keep(0);
        x.tell(3, 7);
        x.comes(1, 7);
        x.wall(0, 4);
        x.keep(2);
        x.move(1, 1);
        x.tell(1, 7);
        x.comes(0, 6);
        x.mean(3);
        x.at(0, 7);
        x.hears(0, 2);
        return x;
    }

    /** Eight talks, alike, that one who must not hear spoils; 40 hours. */
    static PaperWalls full() {
        PaperWalls x = Streets.of(Streets.FIVE);
        for (int k = 0; k < 8; k++) {
            x.talk(2, 4, 1);
        }
        x.comes(2, 0);
        x.comes(3, 7);
        for (int h = 0; h < 40; h++) {
            x.tell(h % 2 == 0 ? 2 : 3, h % 2 == 0 ? 0 : 7);
        }
        x.person(2, 3);
        return x;
    }

    /** Walls without people. */
    static PaperWalls nobody() {
        PaperWalls x = Streets.of("p12");
        x.row(0, 2);
        x.mean(0);
        return x;
    }

    /** Just made. */
    static PaperWalls fresh() {
        return new PaperWalls();
    }

    /** Two who never hear one another; one talk, that can't be made safe; row 0 has something. */
    static PaperWalls apart() {
        PaperWalls x = Streets.of("p99 o0 w2");
        x.talk(0, 1, 0);
        Streets.fill(x, 0, 8);
        x.person(1, 2);
        return x;
    }
}
