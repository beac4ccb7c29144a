/** The examples of README.md, word for word. */
final class ReadmeExample {
    private ReadmeExample() {
    }

    static void run() {
        ReliefNet net = new ReliefNet();
        int town = net.addStation(0, 23, 2);      // on the air all day, at most 2 frames an hour
        int hill = net.addStation(22, 4, 1);      // on the air around midnight, from 22 to 4, 1 frame an hour
        int coast = net.addStation(0, 23, 2);
        net.addLink(town, hill, 0, 23, 60);       // open while both are on the air, quality 60
        net.addLink(hill, coast, 0, 23, 60);
        net.setRules(48, 3, 12);                  // LIFE, TRIES and x, the number that the draws go on from
        int message = net.send(town, coast, 3);   // priority 3, the one that is sent first

        System.out.println("arrives at " + net.way(town, coast, 0, 0) + " if no frame is lost");
        System.out.println("arrives in " + net.hoursTo(1) + " hours with the draws that come");
        System.out.println("delivered: " + net.run(24));
        System.out.println("state: " + net.message(message, 4));
        for (int event = 0; event < net.count(13); event++) {
            int length = net.write(event);
            for (int index = 0; index < length; index++) {
                System.out.print((char) net.output(index));
            }
            System.out.println();
        }

        String setup = "station 0 23 2; station 22 4 1; link 0 1 0 23 80; message 0 1 3; life 24; tries 5; seed 7;";
        for (int at = 0; at < setup.length(); at += 4) {
            int four = 0;
            for (int index = at; index < at + 4; index++) {
                four = four << 8 | (index < setup.length() ? setup.charAt(index) : ' ');
            }
            net.appendText(four);
        }
        System.out.println("statements: " + net.load());
        System.out.println("stations: " + net.count(0) + ", time: " + net.count(3));
    }
}
