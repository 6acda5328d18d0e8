/** What the document says first: 'What it is', in the words of its one long sentence. */
final class FirstSentences {
    private final Sentences s;

    FirstSentences(Sentences s) {
        this.s = s;
    }

    void all() {
        upAStair();
        wayAndThings();
        howItLies();
        rows();
        goes();
        comesOff();
        rooms();
        cameAndImages();
    }

    private void upAStair() {
        s.sentence("A sofa up a stair:");
        s.run("size(4, 2, 4) = 32 | fill(100, 110, 1) = 2 | fill(200, 211, 1) = 4 | fill(300, 312, 1) = 6",
                "say 000-010- | thing(0) = 2 | lay(0, 0) = 1 | goal(0, 303) = 0",
                "GOES(0, 0, 0) = ueueue | EFFORT(0, 0, 0) = 9 ueueue | say ueueue | move(0) = 303");
        s.run("size(4, 2, 4) | fill(100, 110, 1) | fill(200, 211, 1) | fill(300, 312, 1)",
                "say 000-010- | thing(0) | lay(0, 303) | goal(0, 0) | GOES(0, 0, 0) = wwwvvv",
                "fill(103, 103, 1) | fill(2, 3, 1) | GOES(0, 0, 0) = wvwvwv",
                // on end past a wall
                "fill(102, 102, 1) | GOES(0, 0, 0) = wvxswwvvn | fill(112, 112, 1) | goes(0, 0, 0, -1) = NONE");
    }

    private void wayAndThings() {
        s.sentence("a way of cells in three directions, with walls and doors that come off,");
        s.run("size(2, 3, 4) = 24 | cell(123) = 0 | cell(200) = UNKNOWN | cell(130) = UNKNOWN | cell(104) = UNKNOWN");
        s.run("size(3, 1, 1) | say 000- | thing(0) | lay(0, 0) | goal(0, 200) | GOES(0, 0, 0) = ee",
                "fill(100, 100, 1) | goes(0, 0, 15, -1) = NONE | fill(100, 100, 5) | goes(0, 0, 7, -1) = NONE",
                "GOES(0, 0, 8) = ee");
        s.sentence("things of cubes with parts that come off, told as small texts;");
        s.run("size(2, 2, 1) | fill(110, 110, 1) | say 000-100d | thing(3) = 2 | CUBES(3) = 000- 100d | lay(3, 0)",
                "goal(3, 10) | goes(3, 7, 0, -1) = NONE | GOES(3, 8, 0) = s");
    }

    private void howItLies() {
        s.sentence("how a thing lies, pushed, lifted, turned about three axes by quarters;");
        s.run("size(3, 3, 3) | say 000-100-200a | thing(0) = 3 | CUBES(0) = 000- 100- 200a",
                "say z | lay(0, 0) = 1 | told(20) = 0 | CUBES(0) = 000- 010- 020a",
                "say e | move(0) = 100 | say u | move(0) = 101 | CUBES(0) = 000- 010- 020a",
                "say vx | move(0) = 100 | CUBES(0) = 000- 001- 002a | say wy | move(0) = 0 | CUBES(0) = 000- 100- 200a",
                "say zz | move(0) = 0 | CUBES(0) = 200- 100- 000a | say zz | move(0) = 0 | CUBES(0) = 000- 100- 200a");
    }

    private void rows() {
        s.sentence("rows of moves told, the first that can not be, and why;");
        s.run("size(3, 2, 1) | fill(210, 210, 1) | say 000- | thing(0) | lay(0, 0)",
                "JUDGED(0) ees = 2 2 | JUDGED(0) eee = 2 1 | JUDGED(0) sewn = NONE | JUDGED(0) zZu = 2 1",
                "say ees | move(0) = NO | wipe() = 3 | told(20) = 0 | say es | move(0) = 110");
    }

    private void goes() {
        s.sentence("whether it goes, in the shortest row, with least effort;");
        // over the wall, or with less effort round it
        s.run("size(3, 3, 2) | fill(100, 110, 1) | say 000- | thing(0) | lay(0, 0) | goal(0, 200)",
                "GOES(0, 0, 0) = ueev | EFFORT(0, 0, 0) = 4 ueev | cost(-2, 1, 9) = 1 | GOES(0, 0, 0) = ueev",
                "EFFORT(0, 0, 0) = 6 sseenn | fill(120, 121, 1) | EFFORT(0, 0, 0) = 12 ueev | fill(101, 111, 1)",
                "goes(0, 0, 0, -1) = NONE | effort(0, 0, 0, -1) = NONE");
    }

    private void comesOff() {
        s.sentence("what must come off at least, of the thing and of the way, by cost;");
        s.run("size(3, 2, 1) | fill(110, 110, 2) | fill(100, 100, 3) | fill(210, 210, 1)",
                "say 000-010b | thing(0) | lay(0, 0) | goal(0, 200) | LEAST(0) = 2 2 2",
                "cost(-1, 1, 9) | LEAST(0) = 10 2 2 | cost(0, 1, 5) | LEAST(0) = 14 2 2 | fill(210, 210, 0)",
                "LEAST(0) = 6 2 1 | cost(0, 1, 9) = 5 | LEAST(0) = 10 0 3 | cost(-1, 1, 0) = 9 | LEAST(0) = 1 0 3");
    }

    private void rooms() {
        s.sentence("how many stands it can come to, where it scrapes, where it can be turned round;");
        s.run("size(3, 2, 1) | say 000-100- | thing(0) | lay(0, 0)",
                "room(0, 0) = 56 | room(0, 1) = 5 | room(0, 2) = 2",
                "fill(110, 110, 1) | room(0, 0) = 24 | room(0, 1) = 6 | room(0, 2) = 1");
        s.sentence("the longest bar that goes;");
        s.run("size(5, 2, 1) | say 000- | thing(0) | lay(0, 0) | bar(0) = 5 | goal(0, 100) | bar(0) = 4",
                "goal(0, 400) | bar(0) = 2 | fill(310, 310, 1) | bar(0) = 1 | fill(400, 400, 1) | bar(0) = NONE");
        s.sentence("in which order things come out of a room that stand in each other's way;");
        s.run("size(4, 1, 1) | say 000- | thing(0) | say 000- | thing(1) | say 000- | thing(2)",
                "lay(0, 0) | lay(1, 200) | lay(2, 100) | goal(0, 300) | goal(1, 300) | goal(2, 300) | ORDER(7) = 1 2 0",
                "goal(2, 0) | ORDER(7) = NONE | ORDER(6) = 1 2");
    }

    private void cameAndImages() {
        s.sentence("with which walls it can have come in;");
        s.run("size(3, 2, 1) | fill(100, 100, 2) | fill(110, 110, 4) | fill(210, 210, 3) | say 000- | thing(0)",
                "lay(0, 0) | goal(0, 200) | CAME(0) = 10 0 | fill(110, 110, 1) | CAME(0) = 8 1");
        s.sentence("images.");
        s.run("size(2, 1, 1) | say 000- | thing(0) | lay(0, 0) | image(0) = 1 | fill(100, 100, 5) | cost(-1, 3, 7)",
                "goal(0, 100) | image(1) = 1 | LEAST(0) = 7 0 8 | restore(0) = 1 | LEAST(0) = 0 0 0 | cell(100) = 0",
                "restore(1) = 1 | LEAST(0) = 7 0 8 | told(30) = 100");
    }
}
